/** Boundary cases of what would be: promises 20 to 23. */
public final class WouldBeEdgesTest {
    private static final int NONE = PremiumHours.NONE;
    private static final int MIN = Integer.MIN_VALUE;
    private static final int MAX = Integer.MAX_VALUE;
    private static final int COMES = 0;
    private static final int GOES = 1;
    private static final int EITHER = 2;
    private static final Edges EDGES = new Edges();

    public static void main(String[] args) {
        wouldRefuses();
        wouldMoreOrLess();
        wouldLeavesAll();
        dearestRefuses();
        dearestMinutes();
        dearestOfSeveral();
        worthRefuses();
        worth();
        togetherRefuses();
        together();
        EDGES.end();
    }

    private static void edge(String where, String which, Runnable test) {
        EDGES.edge(where, which, test);
    }

    private static void is(long got, long due) {
        EDGES.is(got, due);
    }

    private static PremiumHours withComes(int punches) {
        PremiumHours desk = new PremiumHours();
        for (int i = 0; i < punches; i++) {
            desk.punch(0, COMES, 7, i, false);
        }
        return desk;
    }

    // ---- promise 20

    private static void refused(String which, int worker, int kind, int day, int minute, boolean again) {
        edge("Promise 20, 'Integer.MIN_VALUE: it would be refused'", which, () -> {
            PremiumHours desk = Desk.with("clock 5 3 forward;");
            desk.punch(1, COMES, 9, 600, false);
            is(desk.would(worker, kind, day, minute, again), MIN);
            is(desk.count(11), 1);
        });
    }

    private static void wouldRefuses() {
        for (int worker : new int[] {-1, 4, MIN, MAX}) {
            refused("WORKER " + worker, worker, COMES, 0, 0, false);
        }
        for (int kind : new int[] {-1, 3, MIN, MAX}) {
            refused("KIND " + kind, 0, kind, 0, 0, false);
        }
        for (int day : new int[] {-1, 28, MIN, MAX}) {
            refused("DAY " + day, 0, COMES, day, 0, false);
        }
        for (int minute : new int[] {-1, 1440, MIN, MAX}) {
            refused("MINUTE " + minute, 0, COMES, 0, minute, false);
        }
        refused("the first MINUTE that isn't there", 0, COMES, 5, 180, false);
        refused("the last MINUTE that isn't there", 0, COMES, 5, 239, false);
        refused("a MINUTE that is there once, again", 0, COMES, 5, 240, true);
        refused("one is there", 1, COMES, 9, 600, false);
        refused("one is there, of another KIND", 1, GOES, 9, 600, false);
        String sixty = "Promise 20, 'it would be refused': 60 are";
        edge(sixty, "59 are: it would not", () -> is(withComes(59).would(0, GOES, 7, 118, false), 40000));
        edge(sixty, "60 are", () -> is(withComes(60).would(0, GOES, 7, 119, false), MIN));
        edge(sixty, "60 are of another WORKER", () -> is(withComes(60).would(1, GOES, 7, 119, false), 0));
        edge(sixty, "60 are, one is struck", () -> {
            PremiumHours desk = withComes(60);
            desk.strike(0, 7, 59, false);
            is(desk.would(0, GOES, 7, 118, false), 40000);
        });
    }

    private static void wouldMoreOrLess() {
        String where = "Promise 20, 'By how much all PAY would be more (or less)'";
        edge(where, "nothing: it would be MISSING its other", () -> {
            is(new PremiumHours().would(0, COMES, 0, 0, false), 0);
            is(new PremiumHours().would(3, GOES, 27, 1439, false), 0);
        });
        edge(where, "nothing: a SPAN of no QUARTER", () -> {
            PremiumHours desk = new PremiumHours();
            desk.punch(0, COMES, 0, 600, false);
            is(desk.would(0, GOES, 0, 601, false), 0);
        });
        edge(where, "more, by one QUARTER of the least rate", () -> {
            PremiumHours desk = Desk.with("rate 1;");
            desk.punch(0, COMES, 0, 600, false);
            is(desk.would(0, GOES, 0, 615, false), 100);
        });
        edge(where, "less, by all there is", () -> {
            PremiumHours desk = new PremiumHours();
            Desk.work(desk, 0, 0, 600, 660);
            is(desk.would(0, GOES, 0, 601, false), -40000);
        });
        edge(where, "less, by one QUARTER of the least rate", () -> {
            PremiumHours desk = Desk.with("rate 1;");
            Desk.work(desk, 0, 0, 600, 615);
            is(desk.would(0, COMES, 0, 614, false), -100);
        });
        edge(where, "the longest hours exactly, and a MINUTE more", () -> {
            PremiumHours desk = Desk.with("longest 1;");
            desk.punch(0, COMES, 0, 600, false);
            is(desk.would(0, GOES, 0, 660, false), 40000);
            is(desk.would(0, GOES, 0, 661, false), 0);
        });
        edge(where, "at MOMENT 0 and at the last one", () -> {
            PremiumHours desk = new PremiumHours();
            desk.punch(0, GOES, 0, 60, false);
            desk.punch(0, COMES, 27, 1380, false);
            is(desk.would(0, COMES, 0, 0, false), 40000);
            is(desk.would(0, GOES, 27, 1439, false), 40000);
        });
        edge(where, "at the second time of a MINUTE", () -> {
            PremiumHours desk = Desk.with("clock 5 3 back;");
            desk.punch(0, COMES, 5, 180, false);
            is(desk.would(0, GOES, 5, 180, true), 40000);
            is(desk.would(0, GOES, 5, 180, false), MIN);
        });
        edge(where, "a DAY's and a week's PREMIUMS behind it, too", () -> {
            PremiumHours desk = Desk.with("rate 1;premium day 4 50;premium week 8 100;");
            desk.punch(0, COMES, 0, 0, false);
            Desk.work(desk, 0, 0, 120, 180);
            Desk.work(desk, 0, 1, 0, 60);
            is(desk.total(), 800);
            // DAY 0 has eight then: four of them under day (4 * 50), or PLAIN so that DAY 1's are under week
            is(desk.would(0, GOES, 0, 60, false), 400 + 400);
        });
        edge(where, "the seventh DAY's PREMIUM", () -> {
            PremiumHours desk = Desk.with("rate 1;premium seventh 50;");
            for (int day = 1; day < 7; day++) {
                Desk.work(desk, 0, day, 0, 60);
            }
            desk.punch(0, COMES, 0, 0, false);
            is(desk.would(0, GOES, 0, 15, false), 100 + 4 * 50);
        });
        edge(where, "of all PAY, the others' is the same", () -> {
            PremiumHours desk = new PremiumHours();
            Desk.work(desk, 1, 0, 0, 600);
            desk.punch(0, COMES, 0, 0, false);
            is(desk.would(0, EITHER, 0, 60, false), 40000);
        });
    }

    private static void wouldLeavesAll() {
        edge("Promise 20, 'if a PUNCH came'", "none comes", () -> {
            PremiumHours desk = new PremiumHours();
            desk.punch(0, COMES, 0, 0, false);
            for (int i = 0; i < 20; i++) {
                is(desk.would(0, GOES, 0, 60, false), 40000);
            }
            is(desk.punched(0, NONE, 0), 1);
            is(desk.punched(0, 0, 2), 2);
            is(desk.span(0, NONE, 0), 0);
            is(desk.quarter(0, 0, 0), -2);
            is(desk.total(), 0);
            is(desk.count(11), 1);
            is(desk.undo(), 0);
        });
        edge("Promise 20, 'if a PUNCH came'", "it is what the PUNCH then makes", () -> {
            PremiumHours desk = Desk.with("rate 3;premium day 2 50;premium week 3 200;");
            for (int i = 0; i < 24; i++) {
                int before = desk.total();
                int would = desk.would(1, i % 3, i / 8, 37 * (i * 5 % 8), false);
                desk.punch(1, i % 3, i / 8, 37 * (i * 5 % 8), false);
                is(desk.total() - before, would);
            }
        });
    }

    // ---- promise 21

    private static void dearestRefuses() {
        String where = "Promise 21, 'NONE: others, none can come'";
        PremiumHours desk = new PremiumHours();
        desk.punch(0, COMES, 3, 0, false);
        for (int worker : new int[] {-1, 4, MIN, MAX}) {
            edge(where, "WORKER " + worker, () -> is(desk.dearest(worker, GOES, 3), NONE));
        }
        for (int kind : new int[] {-1, 3, MIN, MAX}) {
            edge(where, "KIND " + kind, () -> is(desk.dearest(0, kind, 3), NONE));
        }
        for (int day : new int[] {-1, 28, MIN, MAX}) {
            edge(where, "DAY " + day, () -> is(desk.dearest(0, GOES, day), NONE));
        }
        edge(where, "59 are: one can", () -> is(withComes(59).dearest(0, GOES, 7), 1005));
        edge(where, "60 are: none can", () -> is(withComes(60).dearest(0, GOES, 7), NONE));
        edge(where, "60 are of another WORKER", () -> is(withComes(60).dearest(1, GOES, 7), 0));
    }

    private static void dearestMinutes() {
        String all = "Promise 21, 'of all multiples of 15'";
        edge(all, "the least: 0", () -> {
            PremiumHours desk = Desk.with("longest 24;");
            desk.punch(0, GOES, 3, 1439, false);
            is(desk.dearest(0, COMES, 3), 0);
        });
        edge(all, "the greatest: 1425", () -> {
            PremiumHours desk = Desk.with("longest 24;");
            desk.punch(0, COMES, 3, 0, false);
            is(desk.dearest(0, GOES, 3), 1425);
        });
        edge(all, "no MINUTE between, though it were dearer", () -> {
            PremiumHours desk = Desk.with("longest 1;");
            desk.punch(0, COMES, 3, 607, false);
            // 667 would make four QUARTERS, too, 668 be too late
            is(desk.dearest(0, GOES, 3), 660);
            PremiumHours last = Desk.with("longest 24;round 0;");
            last.punch(0, COMES, 3, 1424, false);
            is(last.dearest(0, GOES, 3), 0);
            is(last.would(0, GOES, 3, 1426, false), 10000);
        });
        edge(all, "on DAYS 0 and 27", () -> {
            PremiumHours desk = new PremiumHours();
            desk.punch(0, COMES, 0, 1200, false);
            desk.punch(0, COMES, 27, 1200, false);
            is(desk.dearest(0, GOES, 0), 1425);
            is(desk.dearest(0, GOES, 27), 1425);
        });
        edge(all, "for one that came the DAY ahead", () -> {
            PremiumHours desk = Desk.with("longest 2;");
            desk.punch(0, COMES, 2, 1425, false);
            is(desk.dearest(0, GOES, 3), 105);
        });
        String times = "Promise 21, '(the first time)'";
        edge(times, "the second time would be dearer, and is not tried", () -> {
            PremiumHours desk = Desk.with("clock 3 2 back;longest 1;");
            desk.punch(0, COMES, 3, 120, false);
            // all of the second time would be the first of longest's hour: MINUTE 120 again pays most
            is(desk.would(0, GOES, 3, 120, true), 40000);
            is(desk.dearest(0, GOES, 3), 165);
        });
        edge(times, "MINUTES that aren't there can't be", () -> {
            PremiumHours desk = Desk.with("clock 3 0 forward;");
            is(desk.dearest(0, COMES, 3), 60);
        });
        edge(times, "MINUTES that aren't there at the end of a DAY", () -> {
            PremiumHours desk = Desk.with("clock 3 23 forward;longest 24;");
            desk.punch(0, COMES, 3, 0, false);
            is(desk.dearest(0, GOES, 3), 1365);
        });
        edge(times, "one is there: the next", () -> {
            PremiumHours desk = new PremiumHours();
            desk.punch(0, GOES, 3, 0, false);
            desk.punch(0, GOES, 3, 15, false);
            is(desk.dearest(0, GOES, 3), 30);
        });
    }

    private static void dearestOfSeveral() {
        String least = "Promise 21, 'of several the least'";
        edge(least, "all alike: 0", () -> {
            is(new PremiumHours().dearest(0, COMES, 0), 0);
            is(new PremiumHours().dearest(3, GOES, 27), 0);
        });
        edge(least, "two SPANS that would be as dear", () -> {
            PremiumHours desk = Desk.with("longest 1;");
            desk.punch(0, COMES, 3, 600, false);
            desk.punch(0, COMES, 3, 900, false);
            is(desk.dearest(0, GOES, 3), 660);
        });
        edge(least, "nothing would be more: the first that makes nothing less", () -> {
            PremiumHours desk = new PremiumHours();
            Desk.work(desk, 0, 3, 0, 60);
            is(desk.dearest(0, GOES, 3), 75);
        });
        String greatest = "Promise 21, 'at which a PUNCH of a KIND would make all PAY greatest'";
        edge(greatest, "greatest, though less than it is", () -> {
            PremiumHours desk = Desk.with("longest 24;");
            Desk.work(desk, 0, 3, 0, 1439);
            is(desk.dearest(0, COMES, 3), 15);
            is(desk.would(0, COMES, 3, 15, false), -10000);
        });
        edge(greatest, "one MINUTE of many makes it greatest: each begins the SPAN elsewhere", () -> {
            PremiumHours desk = Desk.with("premium night 2 3 300;longest 1;");
            desk.punch(0, GOES, 3, 180, false);
            is(desk.dearest(0, COMES, 3), 120);
            desk.punch(0, GOES, 3, 75, false);
            is(desk.dearest(0, COMES, 3), 120);
        });
        edge(greatest, "the other WORKERS' PAY is no part of it", () -> {
            PremiumHours desk = Desk.with("rate 400;longest 24;premium day 0 300;");
            for (int worker = 1; worker < 4; worker++) {
                for (int day = 0; day < 28; day++) {
                    Desk.work(desk, worker, day, 0, 1439);
                }
            }
            desk.punch(0, COMES, 3, 600, false);
            is(desk.dearest(0, GOES, 3), 1425);
        });
        edge(greatest, "at night, not the longest", () -> {
            PremiumHours desk = Desk.with("longest 1;premium night 2 3 300;");
            desk.punch(0, GOES, 3, 120, false);
            desk.punch(0, GOES, 3, 180, false);
            is(desk.dearest(0, COMES, 3), 135);
        });
        edge("Promise 21, 'would make'", "none comes", () -> {
            PremiumHours desk = new PremiumHours();
            desk.punch(0, COMES, 3, 600, false);
            desk.dearest(0, GOES, 3);
            is(desk.punched(0, NONE, 0), 1);
            is(desk.total(), 0);
            is(desk.count(11), 1);
        });
    }

    // ---- promise 22

    private static void worthRefuses() {
        String where = "Promise 22, 'NONE: none such'";
        for (int premium : new int[] {-1, -2, 2, 8, MIN, MAX}) {
            edge(where, "PREMIUM " + premium + " of two", () ->
                is(Desk.with("premium day 0 50;premium seventh 50;").worth(premium), NONE));
        }
        edge(where, "PREMIUM 0 of none", () -> is(Desk.with("rate 5;").worth(0), NONE));
        edge(where, "PREMIUM 8 of 8", () -> is(Desk.with("premium day 0 50;".repeat(8)).worth(8), NONE));
    }

    private static void worth() {
        String where = "Promise 22, 'By how much all PAY would be less without a PREMIUM'";
        edge(where, "nothing is WORKED", () -> is(Desk.with("premium day 0 50;").worth(0), 0));
        edge(where, "it never may be", () -> {
            PremiumHours desk = Desk.with("premium day 4 50;");
            Desk.work(desk, 0, 0, 0, 60);
            is(desk.worth(0), 0);
        });
        edge(where, "it may be once", () -> {
            PremiumHours desk = Desk.with("premium day 4 50;");
            Desk.work(desk, 0, 0, 0, 75);
            is(desk.worth(0), 5000);
        });
        edge(where, "one that is as good stands in for it", () -> {
            PremiumHours desk = Desk.with("premium day 0 50;premium day 0 50;premium day 0 49;");
            Desk.work(desk, 0, 0, 0, 60);
            is(desk.worth(0), 0);
            is(desk.worth(1), 0);
            is(desk.worth(2), 0);
        });
        edge(where, "one that is a hundredth less stands in for it", () -> {
            PremiumHours desk = Desk.with("rate 1;premium day 0 50;premium day 0 49;");
            Desk.work(desk, 0, 0, 0, 15);
            is(desk.worth(0), 1);
            is(desk.worth(1), 0);
        });
        edge(where, "the last of 8", () -> {
            PremiumHours desk = Desk.with("premium seventh 50;".repeat(7) + "premium day 0 10;");
            Desk.work(desk, 0, 0, 0, 15);
            is(desk.worth(7), 1000);
            is(desk.worth(6), 0);
        });
        edge(where, "BEST anew: without week none waits for it", () -> {
            PremiumHours desk = Desk.with("premium day 0 10;premium week 2 100;");
            Desk.work(desk, 0, 0, 0, 60);
            is(desk.worth(0), 0);
            is(desk.worth(1), 60000 - 44000);
        });
        edge(where, "BEST anew: without the one behind week all wait for it as ahead", () -> {
            PremiumHours desk = Desk.with("rate 1;premium week 2 100;premium day 3 101;");
            Desk.work(desk, 0, 0, 0, 60);
            is(desk.worth(1), 1);
            is(desk.worth(0), 100);
        });
        edge(where, "BEST anew: without one that counts the week is not come to", () -> {
            PremiumHours desk = Desk.with("rate 1;premium day 0 50 counts;premium week 2 100;");
            Desk.work(desk, 0, 0, 0, 60);
            is(desk.total(), 400 + 50 + 50 + 100 + 100);
            is(desk.worth(0), 100);
            is(desk.worth(1), 100);
        });
        edge(where, "one PREMIUM asked for behind another, the last WORKER alone WORKS", () -> {
            PremiumHours desk = Desk.with("rate 1;premium day 2 50;premium day 3 60;");
            Desk.work(desk, 3, 9, 0, 60);
            for (int times = 0; times < 3; times++) {
                is(desk.would(3, COMES, 20, 0, false), 0);
                is(desk.worth(1), 10);
                is(desk.worth(0), 50);
                is(desk.would(3, GOES, 9, 45, false), -160);
            }
        });
        edge(where, "one PREMIUM asked for behind another, the first and the last WORKER alike", () -> {
            PremiumHours desk = Desk.with("rate 1;premium day 2 50;premium day 3 60;");
            Desk.work(desk, 0, 9, 0, 60);
            Desk.work(desk, 3, 9, 0, 60);
            for (int times = 0; times < 3; times++) {
                is(desk.worth(1), 20);
                is(desk.worth(0), 100);
                is(desk.would(0, COMES, 20, 0, false), 0);
                is(desk.worth(0), 100);
            }
        });
        edge(where, "of all four WORKERS and all weeks", () -> {
            PremiumHours desk = Desk.with("rate 1;premium day 0 10;");
            for (int worker = 0; worker < 4; worker++) {
                for (int day = 0; day < 28; day += 9) {
                    Desk.work(desk, worker, day, 0, 15);
                }
            }
            is(desk.worth(0), 4 * 4 * 10);
        });
        edge(where, "the most there is", () -> {
            PremiumHours desk = Desk.with("longest 24;rate 400;premium day 0 300;");
            for (int worker = 0; worker < 4; worker++) {
                for (int day = 0; day < 28; day++) {
                    Desk.work(desk, worker, day, 0, 1439);
                }
            }
            is(desk.worth(0), 4 * 2688 * 120000);
        });
        edge("Promise 22, 'would be'", "the PREMIUM stays", () -> {
            PremiumHours desk = Desk.with("premium day 0 50;");
            Desk.work(desk, 0, 0, 0, 60);
            for (int times = 0; times < 3; times++) {
                is(desk.worth(0), 20000);
                is(desk.total(), 60000);
                is(desk.count(0), 1);
                is(desk.would(0, GOES, 0, 30, false), -30000);
            }
        });
    }

    // ---- promise 23

    private static void togetherRefuses() {
        String where = "Promise 23, 'Of two WORKERS (unlike); NONE: others'";
        for (int worker : new int[] {-1, 4, MIN, MAX}) {
            edge(where, "WORKER " + worker, () -> {
                is(new PremiumHours().together(worker, 0), NONE);
                is(new PremiumHours().together(0, worker), NONE);
                is(new PremiumHours().together(worker, worker), NONE);
            });
        }
        for (int worker = 0; worker < 4; worker++) {
            int alike = worker;
            edge(where, "alike: " + worker, () -> {
                PremiumHours desk = new PremiumHours();
                Desk.work(desk, alike, 0, 0, 60);
                is(desk.together(alike, alike), NONE);
            });
        }
    }

    private static void together() {
        String where = "Promise 23, 'QUARTERS that both WORK'";
        edge(where, "none: one ends where the other begins", () -> {
            PremiumHours desk = new PremiumHours();
            Desk.work(desk, 0, 0, 0, 60);
            Desk.work(desk, 3, 0, 60, 120);
            is(desk.together(0, 3), 0);
            is(desk.together(3, 0), 0);
        });
        edge(where, "one", () -> {
            PremiumHours desk = new PremiumHours();
            Desk.work(desk, 0, 0, 0, 60);
            Desk.work(desk, 3, 0, 45, 120);
            is(desk.together(0, 3), 1);
            is(desk.together(3, 0), 1);
        });
        edge(where, "none: one of them WORKS nothing", () -> {
            PremiumHours desk = new PremiumHours();
            Desk.work(desk, 0, 0, 0, 60);
            is(desk.together(0, 1), 0);
            is(desk.together(1, 2), 0);
        });
        edge(where, "not the other's meal", () -> {
            PremiumHours desk = Desk.with("meal 4 2;");
            Desk.work(desk, 0, 0, 0, 120);
            Desk.work(desk, 1, 0, 45, 105);
            is(desk.together(0, 1), 2);
        });
        edge(where, "the first and the last of all", () -> {
            PremiumHours desk = new PremiumHours();
            for (int worker = 1; worker < 3; worker++) {
                Desk.work(desk, worker, 0, 0, 15);
                Desk.work(desk, worker, 27, 1425, 1439);
            }
            is(desk.together(1, 2), 2);
        });
        edge(where, "the last of all of 28 DAYS and an hour", () -> {
            PremiumHours desk = Desk.with("clock 27 23 back;");
            for (int worker = 1; worker < 3; worker++) {
                desk.punch(worker, COMES, 27, 1425, true);
                desk.punch(worker, GOES, 27, 1439, true);
            }
            is(desk.together(1, 2), 1);
        });
        edge(where, "the two times of an hour are unlike", () -> {
            PremiumHours desk = Desk.with("clock 3 3 back;");
            Desk.work(desk, 0, 3, 180, 225);
            desk.punch(1, COMES, 3, 180, true);
            desk.punch(1, GOES, 3, 225, true);
            is(desk.together(0, 1), 0);
        });
        edge(where, "not those of RULES ahead with more QUARTERS", () -> {
            PremiumHours desk = Desk.with("clock 27 23 back;");
            for (int worker = 0; worker < 2; worker++) {
                desk.punch(worker, COMES, 27, 1380, false);
                desk.punch(worker, GOES, 27, 1439, true);
            }
            is(desk.together(0, 1), 8);
            Desk.tell(desk, "");
            is(desk.together(0, 1), 0);
        });
        edge(where, "all there are", () -> {
            PremiumHours desk = Desk.with("longest 24;");
            for (int worker = 0; worker < 2; worker++) {
                for (int day = 0; day < 28; day++) {
                    Desk.work(desk, worker, day, 0, 1439);
                }
            }
            is(desk.together(0, 1), 2688);
        });
    }
}
