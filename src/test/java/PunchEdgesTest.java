/** Boundary cases of THE CLOCK, of PUNCHES and of SPANS: Terms 2, promises 6 to 12. */
public final class PunchEdgesTest {
    private static final int NONE = PremiumHours.NONE;
    private static final int MIN = Integer.MIN_VALUE;
    private static final int MAX = Integer.MAX_VALUE;
    private static final int COMES = 0;
    private static final int GOES = 1;
    private static final int EITHER = 2;
    private static final Edges EDGES = new Edges();

    public static void main(String[] args) {
        momentWithoutClock();
        momentForward();
        momentBack();
        clockAtTheEnds();
        clockRefuses();
        punchRefuses();
        punchSixty();
        punchTimes();
        strike();
        undo();
        undoSixteen();
        pairs();
        pairsLongest();
        pairsByMoments();
        punched();
        span();
        rounding();
        roundingAtTheEnds();
        meal();
        EDGES.end();
    }

    private static void edge(String where, String which, Runnable test) {
        EDGES.edge(where, which, test);
    }

    private static void is(long got, long due) {
        EDGES.is(got, due);
    }

    // ---- promise 6 and THE CLOCK

    private static void moment(String where, String which, String rules, int day, int minute, boolean again, int due) {
        String name = which + ": DAY " + day + ", MINUTE " + minute + (again ? ", again" : "");
        edge(where, name, () -> is(Desk.with(rules).moment(day, minute, again), due));
    }

    private static void momentWithoutClock() {
        String first = "Terms 2, 'from DAY 0, MINUTE 0 on (0 at first)'";
        moment(first, "the first", "", 0, 0, false, 0);
        moment(first, "the second", "", 0, 1, false, 1);
        String days = "Terms 2, 'DAY 0 to 27 and MINUTE of the day, 0 to 1439'; promise 6, 'NONE: there is none such'";
        moment(days, "the last", "", 27, 1439, false, 40319);
        moment(days, "the last of a DAY", "", 3, 1439, false, 5759);
        moment(days, "the first of a DAY", "", 4, 0, false, 5760);
        for (int day : new int[] {-1, 28, MIN, MAX}) {
            moment(days, "no DAY", "", day, 0, false, NONE);
        }
        for (int minute : new int[] {-1, 1440, MIN, MAX}) {
            moment(days, "no MINUTE", "", 3, minute, false, NONE);
        }
        moment(days, "no MINUTE, though the DAY ahead has it", "", 27, -1, false, NONE);
        moment(days, "no DAY, no MINUTE", "", 28, -1, false, NONE);
        String again = "Promise 6, '(again: the second one); NONE: there is none such'";
        moment(again, "without clock", "", 0, 0, true, NONE);
        moment(again, "without clock", "", 27, 1439, true, NONE);
    }

    private static void momentForward() {
        String where = "Terms 2, 'Put forward at a DAY, an HOUR: the MINUTES of that HOUR aren't there'";
        String rules = "clock 5 3 forward;";
        moment(where, "the last one ahead", rules, 5, 179, false, 7379);
        moment(where, "the first that isn't there", rules, 5, 180, false, NONE);
        moment(where, "the last that isn't there", rules, 5, 239, false, NONE);
        moment(where, "the first one behind", rules, 5, 240, false, 7380);
        moment(where, "that HOUR of the DAY ahead", rules, 4, 180, false, 5940);
        moment(where, "that HOUR of the DAY behind", rules, 6, 180, false, 8760);
        moment(where, "not again either", rules, 5, 180, true, NONE);
        moment(where, "not again either", rules, 5, 239, true, NONE);
        moment(where, "none is there again", rules, 5, 179, true, NONE);
        moment(where, "none is there again", rules, 5, 240, true, NONE);
        moment(where, "the first HOUR of all", "clock 0 0 forward;", 0, 0, false, NONE);
        moment(where, "the first HOUR of all", "clock 0 0 forward;", 0, 59, false, NONE);
        moment(where, "behind the first HOUR of all", "clock 0 0 forward;", 0, 60, false, 0);
        moment(where, "ahead of the last HOUR of all", "clock 27 23 forward;", 27, 1379, false, 40259);
        moment(where, "the last HOUR of all", "clock 27 23 forward;", 27, 1380, false, NONE);
        moment(where, "the last HOUR of all", "clock 27 23 forward;", 27, 1439, false, NONE);
        moment(where, "the last HOUR of a DAY", "clock 5 23 forward;", 5, 1380, false, NONE);
        moment(where, "behind the last HOUR of a DAY", "clock 5 23 forward;", 6, 0, false, 8580);
        moment(where, "the first HOUR of a DAY", "clock 5 0 forward;", 5, 0, false, NONE);
        moment(where, "behind the first HOUR of a DAY", "clock 5 0 forward;", 5, 60, false, 7200);
        moment(where, "ahead of the first HOUR of a DAY", "clock 5 0 forward;", 4, 1439, false, 7199);
    }

    private static void momentBack() {
        String where = "Terms 2, 'put back: they are there twice (AGAIN tells the second ones)'";
        String rules = "clock 5 3 back;";
        moment(where, "the last one ahead", rules, 5, 179, false, 7379);
        moment(where, "the first, the first time", rules, 5, 180, false, 7380);
        moment(where, "the last, the first time", rules, 5, 239, false, 7439);
        moment(where, "the first, the second time", rules, 5, 180, true, 7440);
        moment(where, "the last, the second time", rules, 5, 239, true, 7499);
        moment(where, "the first one behind", rules, 5, 240, false, 7500);
        moment(where, "the last one ahead is there once", rules, 5, 179, true, NONE);
        moment(where, "the first one behind is there once", rules, 5, 240, true, NONE);
        moment(where, "that HOUR of the DAY ahead is there once", rules, 4, 180, true, NONE);
        moment(where, "that HOUR of the DAY behind is there once", rules, 6, 180, true, NONE);
        moment(where, "the DAY behind", rules, 6, 0, false, 8700);
        moment(where, "the first HOUR of all", "clock 0 0 back;", 0, 0, false, 0);
        moment(where, "the first HOUR of all", "clock 0 0 back;", 0, 0, true, 60);
        moment(where, "behind the first HOUR of all", "clock 0 0 back;", 0, 60, false, 120);
        moment(where, "the last HOUR of all", "clock 27 23 back;", 27, 1439, false, 40319);
        moment(where, "the last HOUR of all", "clock 27 23 back;", 27, 1380, true, 40320);
        moment(where, "the last HOUR of all", "clock 27 23 back;", 27, 1439, true, 40379);
        moment(where, "the last HOUR of a DAY", "clock 5 23 back;", 5, 1439, true, 8699);
        moment(where, "behind the last HOUR of a DAY", "clock 5 23 back;", 6, 0, false, 8700);
        moment(where, "behind the last HOUR of a DAY", "clock 5 23 back;", 6, 0, true, NONE);
        moment(where, "the first HOUR of a DAY", "clock 5 0 back;", 5, 0, true, 7260);
        moment(where, "ahead of the first HOUR of a DAY", "clock 5 0 back;", 4, 1439, true, NONE);
    }

    // ---- promise 7

    private static void told(String which, String rules, int moment, int day, int minute, int again) {
        edge("Promise 7, 'What THE CLOCK tells at a MOMENT'", which + ": MOMENT " + moment + " by " + rules, () -> {
            PremiumHours desk = Desk.with(rules);
            is(desk.clock(moment, 0), day);
            is(desk.clock(moment, 1), minute);
            is(desk.clock(moment, 2), again);
        });
    }

    private static void clockAtTheEnds() {
        told("the first", "", 0, 0, 0, 0);
        told("the last", "", 40319, 27, 1439, 0);
        told("the last of a DAY", "", 1439, 0, 1439, 0);
        told("the first of a DAY", "", 1440, 1, 0, 0);
        told("the last one ahead", "clock 5 3 forward;", 7379, 5, 179, 0);
        told("the first one behind", "clock 5 3 forward;", 7380, 5, 240, 0);
        told("the first", "clock 0 0 forward;", 0, 0, 60, 0);
        told("the last", "clock 0 0 forward;", 40259, 27, 1439, 0);
        told("the last", "clock 27 23 forward;", 40259, 27, 1379, 0);
        told("the DAY's last", "clock 5 23 forward;", 8579, 5, 1379, 0);
        told("the next DAY's first", "clock 5 23 forward;", 8580, 6, 0, 0);
        told("the last one ahead", "clock 5 3 back;", 7379, 5, 179, 0);
        told("the first, the first time", "clock 5 3 back;", 7380, 5, 180, 0);
        told("the last, the first time", "clock 5 3 back;", 7439, 5, 239, 0);
        told("the first, the second time", "clock 5 3 back;", 7440, 5, 180, 1);
        told("the last, the second time", "clock 5 3 back;", 7499, 5, 239, 1);
        told("the first one behind", "clock 5 3 back;", 7500, 5, 240, 0);
        told("the first, the second time", "clock 0 0 back;", 60, 0, 0, 1);
        told("the last", "clock 0 0 back;", 40379, 27, 1439, 0);
        told("the last, the second time", "clock 27 23 back;", 40379, 27, 1439, 1);
        told("the DAY's last, the second time", "clock 5 23 back;", 8699, 5, 1439, 1);
        told("the next DAY's first", "clock 5 23 back;", 8700, 6, 0, 0);
        for (String rules : new String[] {"", "clock 0 0 back;", "clock 13 7 forward;", "clock 27 23 back;"}) {
            edge("Promises 6 and 7", "every MOMENT is that of what THE CLOCK tells at it: " + rules, () -> {
                PremiumHours desk = Desk.with(rules);
                for (int at = 0; desk.clock(at, 0) != NONE; at++) {
                    is(desk.moment(desk.clock(at, 0), desk.clock(at, 1), desk.clock(at, 2) == 1), at);
                }
            });
        }
    }

    private static void clockRefuses() {
        String days = "Promise 7, 'a MOMENT that is of DAYS 0 to 27; NONE: others'";
        String[] rules = {"", "clock 27 23 forward;", "clock 0 0 forward;", "clock 27 23 back;", "clock 0 0 back;"};
        int[] ends = {40320, 40260, 40260, 40380, 40380};
        for (int i = 0; i < rules.length; i++) {
            int end = ends[i];
            PremiumHours desk = Desk.with(rules[i]);
            edge(days, "the last by " + rules[i], () -> is(desk.clock(end - 1, 0), 27));
            edge(days, "one behind the last by " + rules[i], () -> is(desk.clock(end, 0), NONE));
            for (int moment : new int[] {-1, MIN, MAX}) {
                edge(days, "MOMENT " + moment + " by " + rules[i], () -> is(desk.clock(moment, 0), NONE));
            }
        }
        for (int what : new int[] {-1, 3, MIN, MAX}) {
            edge("Promise 7, 'NONE: others'", "what " + what, () -> is(new PremiumHours().clock(0, what), NONE));
        }
    }

    // ---- promise 8

    private static void refused(String which, int worker, int kind, int day, int minute, boolean again) {
        edge("Promise 8, 'NONE: no such WORKER, KIND, time, one is there, 60 are'", which, () -> {
            PremiumHours desk = Desk.with("clock 5 3 forward;");
            desk.punch(1, COMES, 9, 600, false);
            is(desk.punch(worker, kind, day, minute, again), NONE);
            is(desk.punched(0, NONE, 0), 0);
            is(desk.punched(1, NONE, 0), 1);
            is(desk.punched(1, 0, 1), COMES);
            is(desk.count(11), 1);
        });
    }

    private static void punchRefuses() {
        for (int worker : new int[] {-1, 4, MIN, MAX}) {
            refused("WORKER " + worker, worker, COMES, 0, 0, false);
        }
        for (int kind : new int[] {-1, 3, MIN, MAX}) {
            refused("KIND " + kind, 0, kind, 0, 0, false);
        }
        for (int day : new int[] {-1, 28, MIN, MAX}) {
            refused("DAY " + day, 0, COMES, day, 0, false);
        }
        for (int minute : new int[] {-1, 1440, MIN, MAX}) {
            refused("MINUTE " + minute, 0, COMES, 0, minute, false);
        }
        refused("the first MINUTE that isn't there", 0, COMES, 5, 180, false);
        refused("the last MINUTE that isn't there", 0, COMES, 5, 239, false);
        refused("a MINUTE that is there once, again", 0, COMES, 5, 240, true);
        refused("one is there", 1, COMES, 9, 600, false);
        refused("one is there, of another KIND", 1, GOES, 9, 600, false);
        String workers = "Terms 2, 'PUNCHES of WORKERS 0 to 3', 'KIND 0 comes, 1 goes, 2 either'";
        edge(workers, "each WORKER, each KIND", () -> {
            PremiumHours desk = new PremiumHours();
            for (int worker = 0; worker < 4; worker++) {
                for (int kind = 0; kind < 3; kind++) {
                    is(desk.punch(worker, kind, 0, 3 - kind, false), kind + 1);
                    is(desk.punched(worker, 0, 1), kind);
                }
            }
        });
        edge("Terms 2, 'of a WORKER no two at one MOMENT'", "of two WORKERS two", () -> {
            PremiumHours desk = new PremiumHours();
            is(desk.punch(0, COMES, 9, 600, false), 1);
            is(desk.punch(1, COMES, 9, 600, false), 1);
        });
        edge("Terms 2, 'of a WORKER no two at one MOMENT'", "the two times of a MINUTE are two MOMENTS", () -> {
            PremiumHours desk = Desk.with("clock 5 3 back;");
            is(desk.punch(0, COMES, 5, 180, true), 1);
            is(desk.punch(0, GOES, 5, 180, false), 2);
            is(desk.punch(0, GOES, 5, 180, true), NONE);
            is(desk.punch(0, GOES, 5, 180, false), NONE);
            is(desk.punched(0, 0, 0), 7380);
            is(desk.punched(0, 1, 0), 7440);
        });
    }

    private static PremiumHours withSixty(int worker) {
        PremiumHours desk = new PremiumHours();
        for (int i = 1; i <= 60; i++) {
            desk.punch(worker, COMES, 7, i, false);
        }
        return desk;
    }

    private static void punchSixty() {
        String where = "Terms 2, '60 at most of each'; promise 8, 'NONE: 60 are'";
        edge(where, "from the first to the 60th", () -> {
            PremiumHours desk = new PremiumHours();
            for (int i = 1; i <= 60; i++) {
                is(desk.punch(3, EITHER, 7, i, false), i);
                is(desk.punched(3, NONE, 0), i);
            }
        });
        edge(where, "a 61st behind all", () -> is(withSixty(3).punch(3, COMES, 8, 0, false), NONE));
        edge(where, "a 61st ahead of all", () -> is(withSixty(3).punch(3, COMES, 0, 0, false), NONE));
        edge(where, "all 60 are as they were", () -> {
            PremiumHours desk = withSixty(3);
            desk.punch(3, GOES, 0, 0, false);
            is(desk.punched(3, NONE, 0), 60);
            is(desk.punched(3, 0, 0), 7 * 1440 + 1);
            is(desk.punched(3, 59, 0), 7 * 1440 + 60);
            is(desk.punched(3, 59, 1), COMES);
            is(desk.count(11), 16);
        });
        edge(where, "60 of another WORKER", () -> is(withSixty(3).punch(2, COMES, 7, 1, false), 1));
        edge(where, "60 of each, all of them at once", () -> {
            PremiumHours desk = new PremiumHours();
            for (int i = 0; i < 240; i++) {
                is(desk.punch(i % 4, EITHER, 3, i, false), i / 4 + 1);
            }
            for (int worker = 0; worker < 4; worker++) {
                is(desk.span(worker, NONE, 0), 30);
                is(desk.punch(worker, EITHER, 27, 0, false), NONE);
            }
        });
        edge(where, "one is struck: one more may come", () -> {
            PremiumHours desk = withSixty(3);
            is(desk.strike(3, 7, 30, false), 59);
            is(desk.punch(3, GOES, 8, 0, false), 60);
            is(desk.punch(3, GOES, 8, 1, false), NONE);
        });
        edge(where, "one is taken back: one more may come", () -> {
            PremiumHours desk = withSixty(3);
            is(desk.undo(), 15);
            is(desk.punch(3, GOES, 8, 0, false), 60);
        });
    }

    private static void punchTimes() {
        String late = "Promise 8, 'A PUNCH comes (how late ever)'";
        edge(late, "each ahead of those that are there", () -> {
            PremiumHours desk = new PremiumHours();
            for (int i = 59; i >= 0; i--) {
                is(desk.punch(0, i % 3, i / 3, i, false), 60 - i);
            }
            for (int k = 0; k < 60; k++) {
                is(desk.punched(0, k, 0), k / 3 * 1440 + k);
                is(desk.punched(0, k, 1), k % 3);
            }
        });
        edge(late, "at MOMENT 0, the last of all being there", () -> {
            PremiumHours desk = new PremiumHours();
            is(desk.punch(0, GOES, 27, 1439, false), 1);
            is(desk.punch(0, COMES, 0, 0, false), 2);
            is(desk.punched(0, 0, 0), 0);
            is(desk.punched(0, 1, 0), 40319);
        });
        edge(late, "it ends a SPAN earlier", () -> {
            PremiumHours desk = new PremiumHours();
            Desk.work(desk, 0, 0, 0, 60);
            is(desk.total(), 40000);
            is(desk.punch(0, GOES, 0, 30, false), 3);
            is(desk.punched(0, 1, 2), 1);
            is(desk.punched(0, 2, 2), 2);
            is(desk.total(), 20000);
        });
    }

    // ---- promise 9

    private static void noneStruck(String which, int worker, int day, int minute, boolean again) {
        edge("Promise 9, 'NONE: there is none such'", which, () -> {
            PremiumHours desk = Desk.with("clock 5 3 back;");
            desk.punch(1, COMES, 5, 180, false);
            is(desk.strike(worker, day, minute, again), NONE);
            is(desk.punched(1, NONE, 0), 1);
            is(desk.count(11), 1);
        });
    }

    private static void strike() {
        for (int worker : new int[] {-1, 4, MIN, MAX}) {
            noneStruck("WORKER " + worker, worker, 5, 180, false);
        }
        noneStruck("another WORKER", 0, 5, 180, false);
        for (int day : new int[] {-1, 28, 4, MIN, MAX}) {
            noneStruck("DAY " + day, 1, day, 180, false);
        }
        for (int minute : new int[] {-1, 1440, 179, 181, MIN, MAX}) {
            noneStruck("MINUTE " + minute, 1, 5, minute, false);
        }
        noneStruck("the second time, the first one is there", 1, 5, 180, true);
        edge("Promise 9, 'NONE: there is none such'", "no PUNCH at all", () ->
            is(new PremiumHours().strike(0, 0, 0, false), NONE));
        edge("Promise 9, 'NONE: there is none such'", "it is struck already", () -> {
            PremiumHours desk = new PremiumHours();
            desk.punch(0, COMES, 0, 0, false);
            is(desk.strike(0, 0, 0, false), 0);
            is(desk.strike(0, 0, 0, false), NONE);
        });
        String left = "Promise 9, 'how many are left'";
        edge(left, "none: the only one is struck", () -> {
            PremiumHours desk = new PremiumHours();
            desk.punch(0, COMES, 27, 1439, false);
            is(desk.strike(0, 27, 1439, false), 0);
            is(desk.punched(0, NONE, 0), 0);
        });
        edge(left, "the first, the last, one between", () -> {
            PremiumHours desk = new PremiumHours();
            for (int i = 0; i < 5; i++) {
                desk.punch(0, i % 3, 0, i, false);
            }
            is(desk.strike(0, 0, 0, false), 4);
            is(desk.strike(0, 0, 4, false), 3);
            is(desk.strike(0, 0, 2, false), 2);
            is(desk.punched(0, 0, 0), 1);
            is(desk.punched(0, 0, 1), GOES);
            is(desk.punched(0, 1, 0), 3);
            is(desk.punched(0, 1, 1), COMES);
        });
        edge(left, "59 of 60, the first, and the last", () -> {
            PremiumHours desk = withSixty(0);
            is(desk.strike(0, 7, 1, false), 59);
            is(desk.strike(0, 7, 60, false), 58);
            is(desk.punched(0, 0, 0), 7 * 1440 + 2);
            is(desk.punched(0, 57, 0), 7 * 1440 + 59);
            is(desk.punched(0, 58, 0), NONE);
        });
        edge("Promise 9, 'The PUNCH of a WORKER at a time'", "the second time, both are there", () -> {
            PremiumHours desk = Desk.with("clock 5 3 back;");
            desk.punch(1, COMES, 5, 239, false);
            desk.punch(1, GOES, 5, 239, true);
            is(desk.strike(1, 5, 239, true), 1);
            is(desk.punched(1, 0, 0), 7439);
        });
    }

    // ---- promise 10

    private static void undo() {
        String none = "Promise 10, 'NONE: none'";
        edge(none, "nothing came", () -> is(new PremiumHours().undo(), NONE));
        edge(none, "all is taken back", () -> {
            PremiumHours desk = new PremiumHours();
            desk.punch(0, COMES, 0, 0, false);
            is(desk.undo(), 0);
            is(desk.undo(), NONE);
            is(desk.punched(0, NONE, 0), 0);
        });
        edge(none, "what was refused is none of these", () -> {
            PremiumHours desk = new PremiumHours();
            desk.punch(4, COMES, 0, 0, false);
            desk.punch(0, COMES, 28, 0, false);
            desk.strike(0, 0, 0, false);
            is(desk.undo(), NONE);
        });
        edge(none, "what is taken back is none of these", () -> {
            PremiumHours desk = new PremiumHours();
            desk.punch(0, COMES, 0, 0, false);
            desk.punch(0, GOES, 0, 60, false);
            is(desk.undo(), 1);
            is(desk.undo(), 0);
            is(desk.undo(), NONE);
            is(desk.count(11), 0);
        });
        edge(none, "behind RULES, though PUNCHES stay", () -> {
            PremiumHours desk = new PremiumHours();
            desk.punch(0, COMES, 0, 0, false);
            desk.rules(0);
            is(desk.undo(), NONE);
            is(desk.punched(0, NONE, 0), 1);
        });
        edge("Promise 10, 'The latest of these is taken back'", "a PUNCH that was struck comes back with its KIND", () -> {
            for (int kind = 0; kind < 3; kind++) {
                PremiumHours desk = new PremiumHours();
                desk.punch(2, kind, 3, 4, false);
                desk.strike(2, 3, 4, false);
                is(desk.undo(), 1);
                is(desk.punched(2, 0, 0), 3 * 1440 + 4);
                is(desk.punched(2, 0, 1), kind);
            }
        });
        edge("Promise 10, 'The latest of these is taken back'", "the latest that came, not the latest by MOMENTS", () -> {
            PremiumHours desk = new PremiumHours();
            desk.punch(0, COMES, 9, 0, false);
            desk.punch(0, COMES, 1, 0, false);
            is(desk.undo(), 1);
            is(desk.punched(0, 0, 0), 9 * 1440);
        });
        edge("Promise 10, 'The latest of these is taken back'", "of another WORKER", () -> {
            PremiumHours desk = new PremiumHours();
            desk.punch(3, COMES, 1, 0, false);
            desk.punch(0, COMES, 1, 0, false);
            desk.strike(3, 1, 0, false);
            is(desk.undo(), 2);
            is(desk.punched(3, NONE, 0), 1);
            is(desk.undo(), 1);
            is(desk.punched(0, NONE, 0), 0);
            is(desk.punched(3, NONE, 0), 1);
        });
        edge("Promise 10, 'The latest of these is taken back'", "of 60 the 60th, and one that was struck of 60", () -> {
            PremiumHours desk = withSixty(1);
            desk.strike(1, 7, 1, false);
            is(desk.undo(), 15);
            is(desk.punched(1, NONE, 0), 60);
            is(desk.punched(1, 0, 0), 7 * 1440 + 1);
            is(desk.undo(), 14);
            is(desk.punched(1, NONE, 0), 59);
            is(desk.punched(1, 58, 0), 7 * 1440 + 59);
        });
        edge("Promise 10, 'The latest of these is taken back'", "pay and SPANS are as they were", () -> {
            PremiumHours desk = new PremiumHours();
            Desk.work(desk, 0, 0, 0, 60);
            desk.punch(0, GOES, 0, 30, false);
            is(desk.total(), 20000);
            desk.undo();
            is(desk.total(), 40000);
            is(desk.span(0, 0, 1), 4);
        });
    }

    private static void undoSixteen() {
        String where = "Promise 10, '(16 are kept): how many still can be'";
        for (int came : new int[] {1, 15, 16, 17, 60}) {
            int kept = Math.min(came, 16);
            edge(where, came + " came: " + kept + " can be taken back, no more", () -> {
                PremiumHours desk = new PremiumHours();
                for (int i = 0; i < came; i++) {
                    desk.punch(0, COMES, 0, i, false);
                }
                is(desk.count(11), kept);
                for (int left = kept - 1; left >= 0; left--) {
                    is(desk.undo(), left);
                    is(desk.punched(0, NONE, 0), came - kept + left);
                    is(desk.count(11), left);
                }
                is(desk.undo(), NONE);
                is(desk.punched(0, NONE, 0), came - kept);
            });
        }
        edge(where, "8 times in, out, in again: 24, the 8 oldest stay", () -> {
            PremiumHours desk = new PremiumHours();
            for (int i = 0; i < 8; i++) {
                desk.punch(i % 4, i % 3, 5, i, false);
                desk.strike(i % 4, 5, i, false);
                desk.punch(i % 4, (i + 1) % 3, 5, i, false);
            }
            for (int i = 15; i >= 0; i--) {
                is(desk.undo(), i);
            }
            is(desk.undo(), NONE);
            // the eight that stay: WORKERS 0 and 1 in, out and in again, WORKER 2 in and out
            int[] left = {1, 1, 0, 0};
            for (int worker = 0; worker < 4; worker++) {
                is(desk.punched(worker, NONE, 0), left[worker]);
            }
        });
        edge(where, "17 came, 16 of them are struck: each comes back with its KIND", () -> {
            PremiumHours desk = new PremiumHours();
            for (int i = 0; i < 17; i++) {
                desk.punch(0, (i + 1) % 3, 5, i, false);
            }
            for (int i = 16; i > 0; i--) {
                desk.strike(0, 5, i, false);
            }
            for (int i = 1; i <= 16; i++) {
                is(desk.undo(), 16 - i);
                is(desk.punched(0, i, 0), 5 * 1440 + i);
                is(desk.punched(0, i, 1), (i + 1) % 3);
            }
            is(desk.undo(), NONE);
            is(desk.punched(0, NONE, 0), 17);
        });
        edge(where, "what is taken back makes room for others", () -> {
            PremiumHours desk = withSixty(0);
            for (int i = 0; i < 5; i++) {
                desk.undo();
            }
            is(desk.count(11), 11);
            for (int i = 0; i < 5; i++) {
                desk.strike(0, 7, i + 1, false);
            }
            is(desk.count(11), 16);
            for (int i = 15; i >= 0; i--) {
                is(desk.undo(), i);
            }
            is(desk.punched(0, NONE, 0), 44);
        });
    }

    // ---- PAIRED

    /** KINDS of PUNCHES half an hour apart, and how each is PAIRED: 0 first, 1 second, 2 MISSING. */
    private static void paired(String words, String which, String kinds, String due) {
        edge("Terms 2, PAIRED, '" + words + "'", which + ": " + kinds, () -> {
            PremiumHours desk = new PremiumHours();
            for (int k = 0; k < kinds.length(); k++) {
                desk.punch(0, kinds.charAt(k) - '0', 0, 30 * k, false);
            }
            int spans = 0;
            for (int k = 0; k < kinds.length(); k++) {
                is(desk.punched(0, k, 2), due.charAt(k) - '0');
                spans += due.charAt(k) == '0' ? 1 : 0;
            }
            is(desk.span(0, NONE, 0), spans);
        });
    }

    private static void pairs() {
        String none = "with none open: one that comes, either is open";
        paired(none, "comes", "01", "01");
        paired(none, "either", "21", "01");
        paired(none, "either, by either", "22", "01");
        String goes = "one that goes is MISSING its other";
        paired(goes, "the first of all", "1", "2");
        paired(goes, "it opens nothing", "11", "22");
        paired(goes, "it opens nothing for either", "121", "201");
        paired(goes, "behind a SPAN", "011", "012");
        String comes = "With one open: one that comes: the open one is MISSING its other, it is open";
        paired(comes, "behind one that comes", "001", "201");
        paired(comes, "behind either", "201", "201");
        paired(comes, "three times", "0001", "2201");
        String span = "one that goes, either: they are a SPAN, none is open";
        paired(span, "goes, then goes", "0111", "0122");
        paired(span, "either, then goes", "0211", "0122");
        paired(span, "either, then either is open", "0222", "0101");
        paired(span, "two SPANS", "0101", "0101");
        String last = "One open at last is MISSING its other";
        paired(last, "one that comes, alone", "0", "2");
        paired(last, "either, alone", "2", "2");
        paired(last, "one that comes, behind a SPAN", "010", "012");
        paired(last, "either, behind a SPAN", "012", "012");
        paired(last, "one that comes, behind another", "00", "22");
        edge("Terms 2, PAIRED, 'of each' WORKER", "what one opens another doesn't end", () -> {
            PremiumHours desk = new PremiumHours();
            desk.punch(0, COMES, 0, 0, false);
            desk.punch(1, GOES, 0, 60, false);
            is(desk.punched(0, 0, 2), 2);
            is(desk.punched(1, 0, 2), 2);
        });
        edge("Terms 2, PAIRED", "60 PUNCHES are 30 SPANS", () -> {
            PremiumHours desk = new PremiumHours();
            for (int i = 0; i < 60; i++) {
                desk.punch(0, i % 2, i / 2 % 28, 600 + 60 * (i / 56) + 30 * (i % 2), false);
            }
            is(desk.span(0, NONE, 0), 30);
            is(desk.punched(0, 0, 2), 0);
            is(desk.punched(0, 59, 2), 1);
            is(desk.span(0, 29, 2), 2);
        });
    }

    /** One that comes at 1:00, another KIND so many MINUTES late behind longest, one that goes a MINUTE on. */
    private static void longest(String rules, int hours, int kind, int late, String due) {
        String which = (rules.isEmpty() ? "16, not told" : rules) + " KIND " + kind + ", " + late + " behind it";
        edge("Terms 2, PAIRED, 'if it is no more than longest hours behind'", which, () -> {
            PremiumHours desk = Desk.with(rules);
            int told = 60 + 60 * hours + late;
            desk.punch(0, COMES, 0, 60, false);
            desk.punch(0, kind, told / 1440, told % 1440, false);
            desk.punch(0, GOES, told / 1440, told % 1440 + 1, false);
            for (int k = 0; k < 3; k++) {
                is(desk.punched(0, k, 2), due.charAt(k) - '0');
            }
        });
    }

    private static void pairsLongest() {
        int[] hours = {1, 16, 24};
        String[] rules = {"longest 1;", "", "longest 24;"};
        for (int i = 0; i < 3; i++) {
            longest(rules[i], hours[i], GOES, -1, "012");
            longest(rules[i], hours[i], GOES, 0, "012");
            longest(rules[i], hours[i], GOES, 1, "222");
            longest(rules[i], hours[i], EITHER, 0, "012");
            longest(rules[i], hours[i], EITHER, 1, "201");
            longest(rules[i], hours[i], COMES, 0, "201");
            longest(rules[i], hours[i], COMES, 1, "201");
        }
        edge("Terms 2, PAIRED, 'else the open one is MISSING its other'", "none is open behind one that goes", () -> {
            PremiumHours desk = Desk.with("longest 1;");
            int[] kinds = {COMES, GOES, EITHER, GOES};
            int[] minutes = {0, 61, 62, 63};
            int[] due = {2, 2, 0, 1};
            for (int k = 0; k < 4; k++) {
                desk.punch(0, kinds[k], 0, minutes[k], false);
            }
            for (int k = 0; k < 4; k++) {
                is(desk.punched(0, k, 2), due[k]);
            }
        });
        edge("Terms 2, PAIRED, 'longest hours behind'", "behind the one that is open, not the first that came", () -> {
            PremiumHours desk = Desk.with("longest 1;");
            desk.punch(0, COMES, 0, 0, false);
            desk.punch(0, COMES, 0, 30, false);
            desk.punch(0, GOES, 0, 90, false);
            is(desk.span(0, NONE, 0), 1);
            is(desk.punched(0, 0, 2), 2);
        });
        edge("Terms 2, PAIRED, 'either is open'", "from either to either, each too late", () -> {
            PremiumHours desk = Desk.with("longest 1;");
            for (int k = 0; k < 4; k++) {
                desk.punch(0, EITHER, 0, 61 * k, false);
            }
            is(desk.span(0, NONE, 0), 0);
            desk.punch(0, EITHER, 0, 61 * 3 + 60, false);
            is(desk.span(0, NONE, 0), 1);
            is(desk.punched(0, 3, 2), 0);
            is(desk.punched(0, 4, 2), 1);
        });
    }

    private static void turnOfTwoHours(String which, String rules, int minute, boolean again, int spans) {
        edge("Terms 2, 'PAIRED by MOMENTS', 'minutes as they truly go by'", which, () -> {
            PremiumHours desk = Desk.with("longest 2;" + rules);
            desk.punch(0, COMES, 5, 150, false);
            desk.punch(0, GOES, 5, minute, again);
            is(desk.span(0, NONE, 0), spans);
        });
    }

    private static void pairsByMoments() {
        turnOfTwoHours("two hours", "", 270, false, 1);
        turnOfTwoHours("two hours and a MINUTE", "", 271, false, 0);
        turnOfTwoHours("put forward between: three hours are told", "clock 5 3 forward;", 330, false, 1);
        turnOfTwoHours("put forward between: three hours and a MINUTE", "clock 5 3 forward;", 331, false, 0);
        turnOfTwoHours("put back between: one hour is told", "clock 5 3 back;", 210, true, 1);
        turnOfTwoHours("put back between: one hour and a MINUTE", "clock 5 3 back;", 211, true, 0);
        edge("Terms 2, 'PAIRED by MOMENTS'", "the first time stands ahead of the second, as told they are turned", () -> {
            PremiumHours desk = Desk.with("clock 5 3 back;");
            desk.punch(0, GOES, 5, 181, true);
            desk.punch(0, COMES, 5, 239, false);
            is(desk.span(0, NONE, 0), 1);
            is(desk.punched(0, 0, 1), COMES);
        });
        edge("Terms 2, 'PAIRED by MOMENTS'", "a SPAN from DAY to DAY", () -> {
            PremiumHours desk = new PremiumHours();
            desk.punch(0, COMES, 3, 1439, false);
            desk.punch(0, GOES, 4, 0, false);
            is(desk.span(0, NONE, 0), 1);
            is(desk.span(0, 0, 0), 384);
            is(desk.span(0, 0, 1), 384);
        });
    }

    // ---- promises 11 and 12

    private static void punched() {
        String none = "Promise 11, 'NONE: others, none such'";
        PremiumHours desk = new PremiumHours();
        Desk.work(desk, 1, 0, 5, 60);
        for (int worker : new int[] {-1, 4, MIN, MAX}) {
            edge(none, "WORKER " + worker, () -> is(desk.punched(worker, 0, 0), NONE));
            edge(none, "WORKER " + worker + ", how many", () -> is(desk.punched(worker, NONE, 0), NONE));
        }
        for (int k : new int[] {-2, 2, 60, MIN, MAX}) {
            edge(none, "PUNCH " + k + " of two", () -> is(desk.punched(1, k, 0), NONE));
        }
        for (int what : new int[] {-1, 3, MIN, MAX}) {
            edge(none, "what " + what, () -> is(desk.punched(1, 0, what), NONE));
        }
        edge(none, "PUNCH 0 of none", () -> is(desk.punched(0, 0, 0), NONE));
        edge("Promise 11, 'how many there are (k NONE)'", "none, two, 60", () -> {
            is(desk.punched(0, NONE, 0), 0);
            is(desk.punched(1, NONE, 0), 2);
            is(withSixty(2).punched(2, NONE, 0), 60);
        });
        edge("Promise 11, 'a WORKER's k-th PUNCH'", "the first, and the last of 60", () -> {
            PremiumHours full = withSixty(2);
            is(full.punched(2, 0, 0), 7 * 1440 + 1);
            is(full.punched(2, 59, 0), 7 * 1440 + 60);
            is(full.punched(2, 60, 0), NONE);
        });
    }

    private static void span() {
        String none = "Promise 12, 'NONE: others, none such'";
        PremiumHours desk = new PremiumHours();
        Desk.work(desk, 1, 0, 0, 60);
        Desk.work(desk, 1, 1, 0, 75);
        desk.punch(2, COMES, 0, 0, false);
        for (int worker : new int[] {-1, 4, MIN, MAX}) {
            edge(none, "WORKER " + worker, () -> is(desk.span(worker, 0, 0), NONE));
            edge(none, "WORKER " + worker + ", how many", () -> is(desk.span(worker, NONE, 0), NONE));
        }
        for (int k : new int[] {-2, 2, 30, MIN, MAX}) {
            edge(none, "SPAN " + k + " of two", () -> is(desk.span(1, k, 0), NONE));
        }
        for (int what : new int[] {-1, 3, MIN, MAX}) {
            edge(none, "what " + what, () -> is(desk.span(1, 0, what), NONE));
        }
        edge(none, "one that there was, and is struck", () -> {
            PremiumHours one = new PremiumHours();
            Desk.work(one, 0, 0, 0, 60);
            is(one.span(0, 0, 1), 4);
            one.strike(0, 0, 60, false);
            is(one.span(0, 0, 1), NONE);
        });
        edge("Promise 12, 'how many SPANS there are (k NONE)'", "none though a PUNCH is there, two, 30", () -> {
            is(desk.span(2, NONE, 0), 0);
            is(desk.span(1, NONE, 0), 2);
            for (int i = 0; i < 60; i++) {
                desk.punch(3, EITHER, 9, i, false);
            }
            is(desk.span(3, NONE, 0), 30);
        });
        edge("Promise 12, 'a WORKER's k-th SPAN'", "the first and the last", () -> {
            is(desk.span(1, 0, 0), 0);
            is(desk.span(1, 0, 2), 4);
            is(desk.span(1, 1, 0), 96);
            is(desk.span(1, 1, 1), 101);
            is(desk.span(1, 1, 2), 5);
        });
    }

    // ---- rounding

    private static void rounded(String which, int round, int comes, int goes, int begin, int end) {
        edge("Terms 2, 'as much as round or less: down, else up'", which + ", round " + round, () -> {
            PremiumHours desk = Desk.with("round " + round + ";");
            Desk.work(desk, 0, 1, comes, goes);
            is(desk.span(0, 0, 0), 96 + begin);
            is(desk.span(0, 0, 1), 96 + end);
            is(desk.span(0, 0, 2), end - begin);
        });
    }

    private static void rounding() {
        for (int round : new int[] {0, 1, 7, 13, 14}) {
            rounded("nothing is left, of both ends", round, 600, 660, 40, 44);
            rounded("as much is left, of the first end", round, 600 + round, 660, 40, 44);
            rounded("as much is left, of the second end", round, 600, 660 + round, 40, 44);
            rounded("14 is left, of the first end", round, 614, 660, round == 14 ? 40 : 41, 44);
            rounded("14 is left, of the second end", round, 600, 674, 40, round == 14 ? 44 : 45);
            if (round < 14) {
                rounded("one more is left, of the first end", round, 601 + round, 660, 41, 44);
                rounded("one more is left, of the second end", round, 600, 661 + round, 40, 45);
            }
        }
        edge("Terms 1, 'round N (7 without)'", "7 is left: down; 8: up", () -> {
            PremiumHours desk = new PremiumHours();
            Desk.work(desk, 0, 1, 607, 667);
            Desk.work(desk, 1, 1, 608, 668);
            is(desk.span(0, 0, 0), 96 + 40);
            is(desk.span(0, 0, 1), 96 + 44);
            is(desk.span(1, 0, 0), 96 + 41);
            is(desk.span(1, 0, 1), 96 + 45);
        });
        String none = "Terms 2, 'WORKED are QUARTERS from the first end on, ahead of the second one'";
        rounded("both ends to one QUARTER: none WORKED", 7, 600, 607, 40, 40);
        rounded("both ends to one QUARTER, one down, one up", 7, 608, 622, 41, 41);
        edge(none, "a SPAN of none is a SPAN", () -> {
            PremiumHours desk = new PremiumHours();
            Desk.work(desk, 0, 1, 600, 601);
            is(desk.span(0, NONE, 0), 1);
            is(desk.span(0, 0, 2), 0);
            is(desk.quarter(0, 136, 0), -2);
            is(desk.day(0, 1, -2), 0);
            is(desk.total(), 0);
        });
        edge(none, "a SPAN of one", () -> {
            PremiumHours desk = new PremiumHours();
            Desk.work(desk, 0, 1, 600, 615);
            is(desk.quarter(0, 135, 0), -2);
            is(desk.quarter(0, 136, 0), 1);
            is(desk.quarter(0, 137, 0), -2);
            is(desk.span(0, 0, 2), 1);
        });
        edge(none, "a SPAN goes on at the QUARTER where the one ahead ends", () -> {
            PremiumHours desk = new PremiumHours();
            Desk.work(desk, 0, 1, 600, 623);
            Desk.work(desk, 0, 1, 624, 645);
            is(desk.span(0, 0, 1), 96 + 42);
            is(desk.span(0, 1, 0), 96 + 42);
            is(desk.day(0, 1, -2), 3);
        });
    }

    private static void atTheEnd(String which, String rules, int comes, int goes, int begin, int end, int worked) {
        edge("Terms 2, 'those behind DAY 27 are not WORKED'", which, () -> {
            PremiumHours desk = Desk.with(rules);
            Desk.work(desk, 0, 27, comes, goes);
            is(desk.span(0, 0, 0), begin);
            is(desk.span(0, 0, 1), end);
            is(desk.span(0, 0, 2), worked);
            is(desk.day(0, 27, -2), worked);
            is(desk.quarter(0, end, 0), -2);
            is(desk.quarter(0, end - 1, 0), worked > 0 ? 27 : -2);
        });
    }

    private static void roundingAtTheEnds() {
        atTheEnd("the second end is rounded to the end of all", "", 1380, 1439, 2684, 2688, 4);
        atTheEnd("the second end is rounded to the last QUARTER", "round 14;", 1380, 1439, 2684, 2687, 3);
        atTheEnd("both ends are rounded to the end of all", "", 1433, 1439, 2688, 2688, 0);
        atTheEnd("of 2684 QUARTERS, the HOUR ahead being put forward", "clock 27 22 forward;", 1380, 1439, 2680, 2684, 4);
        atTheEnd("of 2692 QUARTERS, the HOUR ahead being put back", "clock 27 22 back;", 1380, 1439, 2688, 2692, 4);
        edge("Terms 2, 'those behind DAY 27 are not WORKED'", "the last HOUR told twice is of DAY 27", () -> {
            PremiumHours desk = Desk.with("clock 27 23 back;");
            desk.punch(0, COMES, 27, 1380, false);
            desk.punch(0, GOES, 27, 1439, true);
            is(desk.span(0, 0, 0), 2684);
            is(desk.span(0, 0, 1), 2692);
            is(desk.span(0, 0, 2), 8);
            is(desk.day(0, 27, -2), 8);
        });
        edge("Terms 2, 'those behind DAY 27 are not WORKED'", "of RULES with fewer QUARTERS than those ahead", () -> {
            PremiumHours desk = Desk.with("clock 27 23 back;");
            desk.punch(0, COMES, 27, 0, false);
            desk.punch(0, GOES, 27, 720, false);
            desk.punch(0, COMES, 27, 721, false);
            desk.punch(0, GOES, 27, 1439, true);
            is(desk.quarter(0, 2691, 0), 27);
            Desk.tell(desk, "clock 27 23 forward;");
            is(desk.quarter(0, 2691, 0), -2);
            is(desk.quarter(0, 2684, 0), -2);
            is(desk.day(0, 27, -2), 0);
            is(desk.week(0, 3, -2), 0);
        });
        edge("Terms 2, QUARTERS 'numbered from 0 on'", "a SPAN from MOMENT 0 on", () -> {
            PremiumHours desk = new PremiumHours();
            Desk.work(desk, 0, 0, 0, 15);
            is(desk.span(0, 0, 0), 0);
            is(desk.span(0, 0, 1), 1);
            is(desk.quarter(0, 0, 0), 0);
        });
        edge("Terms 2, 'Both ends of a SPAN are rounded'", "up to the next DAY's first QUARTER", () -> {
            PremiumHours desk = new PremiumHours();
            Desk.work(desk, 0, 6, 1425, 1439);
            Desk.work(desk, 0, 7, 8, 30);
            is(desk.span(0, 0, 1), 672);
            is(desk.day(0, 6, -2), 1);
            is(desk.span(0, 1, 0), 673);
            is(desk.day(0, 7, -2), 1);
        });
    }

    // ---- meal

    /** Of a SPAN of so many QUARTERS from 3:00 on all are WORKED but those from firstOff to lastOff. */
    private static void meal(String which, String rules, int quarters, int firstOff, int lastOff) {
        String where = "Terms 2, 'with a meal (N, M): of a SPAN of more than N QUARTERS not the M behind the first N"
            + " (as far as it goes)'";
        edge(where, which + ": " + rules + " " + quarters + " QUARTERS", () -> {
            PremiumHours desk = Desk.with("longest 24;" + rules);
            int goes = 180 + 15 * quarters;
            desk.punch(0, COMES, 1, 180, false);
            desk.punch(0, GOES, 1 + goes / 1440, goes % 1440, false);
            is(desk.span(0, 0, 1), 108 + quarters);
            is(desk.span(0, 0, 2), quarters - (lastOff - firstOff + 1));
            for (int q = -1; q <= quarters; q++) {
                boolean worked = q >= 0 && q < quarters && (q < firstOff || q > lastOff);
                is(desk.quarter(0, 108 + q, 0) == -2 ? 0 : 1, worked ? 1 : 0);
            }
        });
    }

    private static void meal() {
        meal("N QUARTERS", "meal 8 3;", 8, 8, 7);
        meal("one less than N", "meal 8 3;", 7, 8, 7);
        meal("one more than N", "meal 8 3;", 9, 8, 8);
        meal("one less than N and M", "meal 8 3;", 10, 8, 9);
        meal("N and M", "meal 8 3;", 11, 8, 10);
        meal("one more than N and M", "meal 8 3;", 12, 8, 10);
        meal("the least N", "meal 1 1;", 1, 1, 0);
        meal("the least N", "meal 1 1;", 2, 1, 1);
        meal("the least N", "meal 1 1;", 3, 1, 1);
        meal("the largest M", "meal 1 16;", 17, 1, 16);
        meal("the largest M", "meal 1 16;", 18, 1, 16);
        meal("the longest SPAN", "meal 95 16;", 96, 95, 95);
        meal("the largest N: no SPAN is longer", "meal 96 16;", 96, 96, 95);
        meal("no meal", "", 96, 96, 95);
        String where = "Terms 2, 'of a SPAN of more than N QUARTERS'";
        edge(where, "QUARTERS as rounded, not minutes", () -> {
            PremiumHours desk = Desk.with("meal 4 2;");
            Desk.work(desk, 0, 0, 0, 67);
            Desk.work(desk, 1, 0, 7, 68);
            is(desk.span(0, 0, 2), 4);
            is(desk.span(1, 0, 2), 4);
            is(desk.quarter(1, 3, 0), 0);
            is(desk.quarter(1, 4, 0), -2);
            Desk.work(desk, 2, 0, 0, 68);
            is(desk.span(2, 0, 1), 5);
            is(desk.quarter(2, 4, 0), -2);
        });
        edge(where, "each SPAN by itself, though one goes on where the other ends", () -> {
            PremiumHours desk = Desk.with("meal 4 2;");
            Desk.work(desk, 0, 0, 0, 60);
            Desk.work(desk, 0, 0, 61, 120);
            is(desk.day(0, 0, -2), 8);
        });
        edge(where, "30 SPANS with a meal in each", () -> {
            PremiumHours desk = Desk.with("meal 1 1;");
            for (int i = 0; i < 30; i++) {
                Desk.work(desk, 0, i % 28, i / 28 * 120, i / 28 * 120 + 45);
            }
            is(desk.span(0, NONE, 0), 30);
            is(desk.span(0, 29, 2), 2);
            is(desk.week(0, 0, -2) + desk.week(0, 1, -2) + desk.week(0, 2, -2) + desk.week(0, 3, -2), 60);
        });
        edge(where, "the meal goes over midnight", () -> {
            PremiumHours desk = Desk.with("meal 2 4;");
            desk.punch(0, COMES, 6, 1380, false);
            desk.punch(0, GOES, 7, 60, false);
            is(desk.day(0, 6, -2), 2);
            is(desk.day(0, 7, -2), 2);
            is(desk.quarter(0, 673, 0), -2);
            is(desk.quarter(0, 674, 0), 7);
        });
        edge(where, "the meal goes to the end of all", () -> {
            PremiumHours desk = Desk.with("meal 3 16;");
            Desk.work(desk, 0, 27, 1380, 1439);
            is(desk.span(0, 0, 1), 2688);
            is(desk.span(0, 0, 2), 3);
            is(desk.quarter(0, 2687, 0), -2);
        });
    }
}
