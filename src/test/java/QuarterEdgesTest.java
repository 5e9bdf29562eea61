/** Boundary cases of how QUARTERS are PAID: Terms 2 and 3, promises 13 to 19. */
public final class QuarterEdgesTest {
    private static final int NONE = PremiumHours.NONE;
    private static final int WORKED = -2;
    private static final int MIN = Integer.MIN_VALUE;
    private static final int MAX = Integer.MAX_VALUE;
    private static final int COMES = 0;
    private static final int GOES = 1;
    private static final Edges EDGES = new Edges();

    public static void main(String[] args) {
        dayPremium();
        dayPremiumOfDays();
        weekPremium();
        weekPremiumCounts();
        seventh();
        seventhLacks();
        night();
        nightByTheClock();
        holiday();
        payOfOne();
        asTheyCome();
        best();
        bestOfSeveral();
        quarter();
        quarterTells();
        weeks();
        day();
        week();
        counted();
        pay();
        dayPay();
        moved();
        struckAndTakenBack();
        total();
        EDGES.end();
    }

    private static void edge(String where, String which, Runnable test) {
        EDGES.edge(where, which, test);
    }

    private static void is(long got, long due) {
        EDGES.is(got, due);
    }

    /** From 0:00 on so many QUARTERS of a DAY, 95 at most. */
    private static void work(PremiumHours desk, int worker, int day, int quarters) {
        Desk.work(desk, worker, day, 0, 15 * quarters);
    }

    /** A whole DAY; one that has 25 hours, too. RULES need longest 24. */
    private static void workAllDay(PremiumHours desk, int worker, int day) {
        Desk.work(desk, worker, day, 0, 720);
        Desk.work(desk, worker, day, 721, 1439);
    }

    /** How WORKER 0's QUARTERS are PAID (or came, or may be: what of quarter) from one on. */
    private static void quartersAre(PremiumHours desk, int from, int what, int... due) {
        for (int i = 0; i < due.length; i++) {
            is(desk.quarter(0, from + i, what), due[i]);
        }
    }

    // ---- Terms 3: day N

    private static void dayPremium() {
        String where = "Terms 3, 'day N: N QUARTERS or more of that DAY are WORKED ahead of it'";
        edge(where, "N - 1, N and N + 1 are", () -> {
            PremiumHours desk = Desk.with("premium day 4 50;");
            work(desk, 0, 2, 6);
            quartersAre(desk, 192, 2, NONE, NONE, NONE, NONE, 0, 0);
            quartersAre(desk, 192, 3, NONE, NONE, NONE, NONE, 0, 0);
            quartersAre(desk, 192, 4, 0, 0, 0, 0, 1, 1);
        });
        edge(where, "N is 0: the first one, too", () -> {
            PremiumHours desk = Desk.with("premium day 0 50;");
            work(desk, 0, 2, 1);
            quartersAre(desk, 192, 2, 0);
        });
        edge(where, "N is 95: the last of a DAY", () -> {
            PremiumHours desk = Desk.with("longest 24;premium day 95 50;");
            workAllDay(desk, 0, 2);
            is(desk.day(0, 2, WORKED), 96);
            is(desk.day(0, 2, 0), 1);
            is(desk.quarter(0, 192 + 95, 2), 0);
        });
        edge(where, "N is 96: none of a DAY", () -> {
            PremiumHours desk = Desk.with("longest 24;premium day 96 50;");
            workAllDay(desk, 0, 2);
            is(desk.day(0, 2, WORKED), 96);
            is(desk.day(0, 2, 0), 0);
        });
        edge(where, "N is 96: four of a DAY of 25 hours", () -> {
            PremiumHours desk = Desk.with("longest 24;clock 2 3 back;premium day 96 50;");
            workAllDay(desk, 0, 2);
            is(desk.day(0, 2, WORKED), 100);
            is(desk.day(0, 2, 0), 4);
            is(desk.quarter(0, 192 + 95, 2), NONE);
            is(desk.quarter(0, 192 + 96, 2), 0);
        });
    }

    private static void dayPremiumOfDays() {
        String where = "Terms 3, 'N QUARTERS or more of that DAY are WORKED'";
        edge(where, "a SPAN over midnight: each DAY by itself", () -> {
            PremiumHours desk = Desk.with("premium day 2 50;");
            desk.punch(0, COMES, 2, 1380, false);
            desk.punch(0, GOES, 3, 45, false);
            for (int what = 2; what < 4; what++) {
                quartersAre(desk, 284, what, NONE, NONE, 0, 0, NONE, NONE, 0);
            }
            quartersAre(desk, 284, 4, 0, 0, 1, 1, 0, 0, 1);
        });
        edge(where, "of another SPAN of that DAY, too", () -> {
            PremiumHours desk = Desk.with("premium day 2 50;");
            Desk.work(desk, 0, 2, 1380, 1395);
            Desk.work(desk, 0, 2, 0, 15);
            Desk.work(desk, 0, 2, 600, 630);
            is(desk.quarter(0, 192, 2), NONE);
            is(desk.quarter(0, 192 + 40, 2), NONE);
            is(desk.quarter(0, 192 + 41, 2), 0);
            is(desk.quarter(0, 192 + 92, 2), 0);
        });
        edge(where, "a meal's are not", () -> {
            PremiumHours desk = Desk.with("meal 2 2;premium day 4 50;");
            work(desk, 0, 0, 7);
            quartersAre(desk, 0, 2, NONE, NONE, -2, -2, NONE, NONE, 0);
        });
        edge(where, "also such as don't COUNT", () -> {
            PremiumHours desk = Desk.with("premium day 0 10;premium day 2 20;");
            work(desk, 0, 0, 3);
            quartersAre(desk, 0, 2, 0, 0, 1);
            quartersAre(desk, 0, 4, 1, 1, 3);
        });
        edge(where, "not those of another WORKER", () -> {
            PremiumHours desk = Desk.with("premium day 2 50;");
            work(desk, 1, 0, 4);
            Desk.work(desk, 0, 0, 60, 90);
            quartersAre(desk, 4, 2, NONE, NONE);
        });
    }

    // ---- Terms 3: week N

    private static void weekPremium() {
        String where = "Terms 3, 'week N: N QUARTERS or more of that week COUNT ahead of it'";
        edge(where, "N - 1, N and N + 1 do, from the first DAY to the last", () -> {
            PremiumHours desk = Desk.with("premium week 4 50;");
            work(desk, 0, 7, 2);
            work(desk, 0, 13, 4);
            quartersAre(desk, 672, 2, NONE, NONE);
            quartersAre(desk, 1248, 2, NONE, NONE, 0, 0);
            quartersAre(desk, 1248, 3, NONE, NONE, 0, 0);
            quartersAre(desk, 1248, 4, 0, 0, 1, 1);
        });
        edge(where, "N is 0: the first one, too", () -> {
            PremiumHours desk = Desk.with("premium week 0 50;");
            work(desk, 0, 2, 2);
            quartersAre(desk, 192, 2, 0, 0);
        });
        edge(where, "N is 1: not the first one", () -> {
            PremiumHours desk = Desk.with("premium week 1 50;");
            work(desk, 0, 2, 3);
            quartersAre(desk, 192, 2, NONE, 0, 0);
        });
        for (int n : new int[] {671, 672}) {
            edge(where, "N is " + n + ": " + (672 - n) + " of a week", () -> {
                PremiumHours desk = Desk.with("longest 24;premium week " + n + " 50;");
                for (int day = 0; day < 7; day++) {
                    workAllDay(desk, 0, day);
                }
                is(desk.week(0, 0, WORKED), 672);
                is(desk.week(0, 0, 0), 672 - n);
                is(desk.quarter(0, 671, 2), n == 671 ? 0 : NONE);
            });
        }
        edge(where, "N is 672: four of a week with an hour more", () -> {
            PremiumHours desk = Desk.with("longest 24;clock 20 23 back;premium week 672 50;");
            for (int day = 14; day < 21; day++) {
                workAllDay(desk, 0, day);
            }
            desk.strike(0, 20, 1439, false);
            desk.punch(0, GOES, 20, 1439, true);
            is(desk.week(0, 2, WORKED), 676);
            is(desk.week(0, 2, 0), 4);
            is(desk.counted(0, 2, false), 672);
            is(desk.quarter(0, 1344 + 671, 2), NONE);
            is(desk.quarter(0, 1344 + 672, 2), 0);
            is(desk.quarter(0, 1344 + 675, 2), 0);
        });
        for (int week = 0; week < 3; week++) {
            int last = 7 * week + 6;
            edge(where, "those of the week ahead don't: DAYS " + last + " and " + (last + 1), () -> {
                PremiumHours desk = Desk.with("premium week 4 50;");
                work(desk, 0, last, 5);
                work(desk, 0, last + 1, 5);
                quartersAre(desk, 96 * last, 2, NONE, NONE, NONE, NONE, 0);
                quartersAre(desk, 96 * last + 96, 2, NONE, NONE, NONE, NONE, 0);
                quartersAre(desk, 96 * last + 96, 3, NONE, NONE, NONE, NONE, 0);
            });
        }
        edge(where, "a SPAN over the end of a week: each week by itself", () -> {
            PremiumHours desk = Desk.with("premium week 2 50;");
            desk.punch(0, COMES, 6, 1395, false);
            desk.punch(0, GOES, 7, 45, false);
            quartersAre(desk, 669, 2, NONE, NONE, 0, NONE, NONE, 0);
        });
    }

    private static void weekPremiumCounts() {
        String where = "Terms 3, 'It COUNTS if it is PAID PLAIN, or under a PREMIUM with counts'";
        edge(where, "under one without counts it doesn't", () -> {
            PremiumHours desk = Desk.with("holiday 0;premium holiday 200;premium week 4 100;");
            work(desk, 0, 0, 4);
            work(desk, 0, 1, 5);
            quartersAre(desk, 0, 2, 0, 0, 0, 0);
            quartersAre(desk, 96, 2, NONE, NONE, NONE, NONE, 1);
            is(desk.counted(0, 0, false), 4);
            is(desk.counted(0, 0, true), 4);
        });
        edge(where, "under one with counts it does", () -> {
            PremiumHours desk = Desk.with("holiday 0;premium holiday 200 counts;premium week 4 100;");
            work(desk, 0, 0, 4);
            work(desk, 0, 1, 5);
            quartersAre(desk, 0, 2, 0, 0, 0, 0);
            quartersAre(desk, 96, 2, 1, 1, 1, 1, 1);
            is(desk.counted(0, 0, false), 4);
            is(desk.counted(0, 0, true), 4);
        });
        edge(where, "under a week PREMIUM with counts it does", () -> {
            PremiumHours desk = Desk.with("premium week 1 100 counts;premium week 3 200;");
            work(desk, 0, 0, 5);
            quartersAre(desk, 0, 2, NONE, 0, 0, 1, 1);
            is(desk.counted(0, 0, false), 3);
        });
        edge(where, "under a week PREMIUM without counts it doesn't", () -> {
            PremiumHours desk = Desk.with("premium week 1 100;premium week 2 150;");
            work(desk, 0, 0, 4);
            quartersAre(desk, 0, 3, NONE, 0, 0, 0);
            is(desk.counted(0, 0, true), 1);
        });
        edge(where, "those that COUNT not ahead, but behind, don't help", () -> {
            PremiumHours desk = Desk.with("premium week 4 50;");
            work(desk, 0, 0, 4);
            work(desk, 0, 6, 95);
            quartersAre(desk, 0, 4, 0, 0, 0, 0);
        });
    }

    // ---- Terms 3: seventh

    private static void seventh() {
        String where = "Terms 3, 'seventh: it is of the seventh DAY of its week, on all the six ahead something is WORKED'";
        for (int week = 0; week < 4; week++) {
            int first = 7 * week;
            edge(where, "DAY " + (first + 6) + " may, none ahead of it", () -> {
                PremiumHours desk = Desk.with("premium seventh 50;");
                for (int day = first; day < first + 7; day++) {
                    work(desk, 0, day, 2);
                }
                for (int day = first; day < first + 6; day++) {
                    is(desk.day(0, day, 0), 0);
                }
                is(desk.day(0, first + 6, 0), 2);
                is(desk.quarter(0, 96 * first + 576, 4), 1);
            });
        }
        edge(where, "all of 28 DAYS: four may", () -> {
            PremiumHours desk = Desk.with("premium seventh 50;");
            for (int day = 0; day < 28; day++) {
                work(desk, 0, day, 1);
            }
            for (int day = 0; day < 28; day++) {
                is(desk.day(0, day, 0), day % 7 == 6 ? 1 : 0);
            }
        });
        edge(where, "one QUARTER on each of the six, the last of each, is something", () -> {
            PremiumHours desk = Desk.with("premium seventh 50;");
            for (int day = 0; day < 6; day++) {
                Desk.work(desk, 0, day, 1425, 1439);
            }
            work(desk, 0, 6, 1);
            is(desk.day(0, 6, 0), 1);
        });
        edge(where, "a SPAN over midnight is something of both DAYS", () -> {
            PremiumHours desk = Desk.with("premium seventh 50;");
            for (int day = 0; day < 6; day += 2) {
                desk.punch(0, COMES, day, 1425, false);
                desk.punch(0, GOES, day + 1, 15, false);
            }
            work(desk, 0, 6, 3);
            is(desk.day(0, 6, 0), 3);
        });
        edge(where, "a late PUNCH on the first of the six", () -> {
            PremiumHours desk = Desk.with("premium seventh 50;");
            for (int day = 6; day > 0; day--) {
                work(desk, 0, day, 1);
            }
            desk.punch(0, COMES, 0, 0, false);
            is(desk.day(0, 6, 0), 0);
            desk.punch(0, GOES, 0, 15, false);
            is(desk.day(0, 6, 0), 1);
        });
    }

    private static void seventhLacks() {
        String where = "Terms 3, 'on all the six ahead something is WORKED'";
        for (int week = 0; week < 4; week += 3) {
            for (int lacks = 0; lacks < 6; lacks++) {
                int first = 7 * week;
                int without = first + lacks;
                edge(where, "not on DAY " + without, () -> {
                    PremiumHours desk = Desk.with("premium seventh 50;");
                    for (int day = first; day < first + 7; day++) {
                        if (day != without) {
                            work(desk, 0, day, 2);
                        }
                    }
                    work(desk, 1, without, 2);
                    is(desk.day(0, first + 6, WORKED), 2);
                    is(desk.day(0, first + 6, 0), 0);
                });
            }
        }
        edge(where, "on one of them a SPAN of no QUARTER", () -> {
            PremiumHours desk = Desk.with("premium seventh 50;");
            for (int day = 0; day < 7; day++) {
                Desk.work(desk, 0, day, 600, day == 3 ? 601 : 615);
            }
            is(desk.day(0, 6, 0), 0);
        });
        edge(where, "on one of them PUNCHES that are MISSING their others", () -> {
            PremiumHours desk = Desk.with("premium seventh 50;");
            for (int day = 0; day < 7; day++) {
                desk.punch(0, day == 3 ? GOES : COMES, day, 600, false);
                desk.punch(0, GOES, day, 615, false);
            }
            is(desk.day(0, 6, 0), 0);
        });
        edge(where, "on one of them a meal alone", () -> {
            PremiumHours desk = Desk.with("meal 4 2;premium seventh 50;");
            for (int day = 0; day < 7; day++) {
                if (day != 2) {
                    desk.punch(0, COMES, day, 1380, false);
                    desk.punch(0, GOES, day == 1 ? 2 : day, day == 1 ? 30 : 1439, false);
                }
            }
            is(desk.day(0, 2, WORKED), 0);
            is(desk.day(0, 6, WORKED), 4);
            is(desk.day(0, 6, 0), 0);
        });
        edge(where, "six DAYS ahead, but of two weeks", () -> {
            PremiumHours desk = Desk.with("premium seventh 50;");
            for (int day = 5; day < 13; day++) {
                work(desk, 0, day, 1);
            }
            for (int day = 5; day < 13; day++) {
                is(desk.day(0, day, 0), 0);
            }
        });
        edge(where, "all six, nothing on the seventh", () -> {
            PremiumHours desk = Desk.with("premium seventh 50;");
            for (int day = 0; day < 6; day++) {
                work(desk, 0, day, 1);
            }
            work(desk, 0, 7, 1);
            is(desk.week(0, 0, 0), 0);
            is(desk.week(0, 1, 0), 0);
        });
    }

    // ---- Terms 3: night

    /** The HOURS that are night, each of 24 as a sign: n, or - for none. */
    private static void nightHours(String numbers, String hours) {
        edge("Terms 3, 'night: HOUR is at least the first, less than the second one, or, if the first one is more, at"
            + " least that or less than the second one'", numbers, () -> {
            PremiumHours desk = Desk.with("longest 24;premium night " + numbers + " 50;");
            workAllDay(desk, 0, 3);
            for (int hour = 0; hour < 24; hour++) {
                int due = hours.charAt(hour) == 'n' ? 1 : 0;
                is(desk.quarter(0, 288 + 4 * hour, 4), due);
                is(desk.quarter(0, 288 + 4 * hour + 3, 4), due);
                is(desk.quarter(0, 288 + 4 * hour, 2), due - 1);
            }
        });
    }

    private static void night() {
        nightHours("9 17", "---------nnnnnnnn-------");
        nightHours("22 6", "nnnnnn----------------nn");
        nightHours("0 1", "n-----------------------");
        nightHours("1 0", "-nnnnnnnnnnnnnnnnnnnnnnn");
        nightHours("0 23", "nnnnnnnnnnnnnnnnnnnnnnn-");
        nightHours("23 0", "-----------------------n");
        nightHours("22 23", "----------------------n-");
        nightHours("23 22", "nnnnnnnnnnnnnnnnnnnnnn-n");
        nightHours("12 11", "nnnnnnnnnnn-nnnnnnnnnnnn");
    }

    private static void nightByTheClock() {
        String where = "Terms 2, 'A QUARTER has the HOUR that THE CLOCK tells as it begins'";
        edge(where, "put forward: the HOUR that isn't there is no night", () -> {
            PremiumHours desk = Desk.with("clock 5 3 forward;premium night 3 4 50;");
            Desk.work(desk, 0, 5, 120, 360);
            is(desk.day(0, 5, WORKED), 12);
            is(desk.day(0, 5, 0), 0);
            is(desk.quarter(0, 491, 1), 2);
            is(desk.quarter(0, 492, 1), 4);
        });
        edge(where, "put back: the HOUR is there twice", () -> {
            PremiumHours desk = Desk.with("clock 5 3 back;premium night 3 4 50;");
            Desk.work(desk, 0, 5, 120, 300);
            is(desk.day(0, 5, WORKED), 16);
            is(desk.day(0, 5, 0), 8);
            is(desk.quarter(0, 491, 1), 2);
            is(desk.quarter(0, 492, 1), 3);
            is(desk.quarter(0, 499, 1), 3);
            is(desk.quarter(0, 500, 1), 4);
        });
        edge(where, "a QUARTER to the hour is of the HOUR ahead", () -> {
            PremiumHours desk = Desk.with("premium night 22 23 50;");
            Desk.work(desk, 0, 2, 1305, 1395);
            quartersAre(desk, 192 + 87, 1, 21, 22, 22, 22, 22, 23);
            quartersAre(desk, 192 + 87, 2, NONE, 0, 0, 0, 0, NONE);
        });
    }

    // ---- Terms 3: holiday, PAY

    private static void holiday() {
        String where = "Terms 3, 'holiday: its DAY is one'";
        edge(where, "a SPAN into it and out of it", () -> {
            PremiumHours desk = Desk.with("holiday 3;premium holiday 50;");
            desk.punch(0, COMES, 2, 1425, false);
            desk.punch(0, GOES, 3, 15, false);
            desk.punch(0, COMES, 3, 1425, false);
            desk.punch(0, GOES, 4, 15, false);
            quartersAre(desk, 287, 2, NONE, 0);
            quartersAre(desk, 383, 2, 0, NONE);
        });
        edge(where, "DAYS 0 and 27, and 6 and 7", () -> {
            PremiumHours desk = Desk.with("holiday 27;holiday 0;holiday 7;holiday 6;premium holiday 50;");
            for (int day = 0; day < 28; day++) {
                work(desk, 0, day, 1);
                is(desk.day(0, day, 0), day == 0 || day == 6 || day == 7 || day == 27 ? 1 : 0);
            }
        });
        edge(where, "none is told", () -> {
            PremiumHours desk = Desk.with("premium holiday 50;");
            for (int day = 0; day < 28; day++) {
                work(desk, 0, day, 1);
                is(desk.day(0, day, 0), 0);
            }
        });
        edge(where, "the hour that is told twice at its end is of it", () -> {
            PremiumHours desk = Desk.with("clock 3 23 back;holiday 3;premium holiday 50;");
            desk.punch(0, COMES, 3, 1380, false);
            desk.punch(0, GOES, 4, 60, false);
            is(desk.day(0, 3, 0), 8);
            is(desk.day(0, 4, WORKED), 4);
            is(desk.day(0, 4, 0), 0);
        });
    }

    private static void payOfOne() {
        String where = "Terms 3, 'PAY of one is rate times 100, and the PREMIUM's hundredths (hundredths of what rate is)'";
        int[] rates = {1, 400};
        int[] hundredths = {1, 300};
        for (int rate : rates) {
            edge(where, "PLAIN, rate " + rate, () -> {
                PremiumHours desk = Desk.with("rate " + rate + ";");
                work(desk, 0, 0, 1);
                is(desk.total(), 100 * rate);
            });
            for (int more : hundredths) {
                edge(where, more + " hundredths, rate " + rate, () -> {
                    PremiumHours desk = Desk.with("rate " + rate + ";premium day 0 " + more + ";");
                    work(desk, 0, 0, 1);
                    is(desk.dayPay(0, 0), rate * (100 + more));
                    is(desk.pay(0, 0, false), rate * (100 + more));
                    is(desk.pay(0, 0, true), rate * (100 + more));
                    is(desk.total(), rate * (100 + more));
                });
            }
        }
        edge("Terms 3, 'Each WORKED QUARTER is PAID PLAIN, or under one PREMIUM'", "8 that may be: one pays", () -> {
            PremiumHours desk = Desk.with("rate 1;" + "premium day 0 50;".repeat(8));
            work(desk, 0, 0, 1);
            is(desk.quarter(0, 0, 4), 255);
            is(desk.total(), 150);
        });
    }

    // ---- Terms 3: AS THEY COME, BEST

    private static void asTheyCome() {
        String where = "Terms 3, AS THEY COME, 'each by the PREMIUM of most hundredths that may be then, of several the"
            + " first (PLAIN, if none may be)'";
        edge(where, "the first has most", () -> {
            PremiumHours desk = Desk.with("premium day 0 60;premium day 0 50;");
            work(desk, 0, 0, 1);
            quartersAre(desk, 0, 3, 0);
        });
        edge(where, "the last of 8 has most", () -> {
            PremiumHours desk = Desk.with("premium day 0 50;".repeat(7) + "premium day 0 51;");
            work(desk, 0, 0, 1);
            quartersAre(desk, 0, 3, 7);
        });
        edge(where, "several have most", () -> {
            PremiumHours desk = Desk.with("premium day 0 50;premium day 0 60;premium day 0 60 counts;premium day 0 60;");
            work(desk, 0, 0, 1);
            quartersAre(desk, 0, 3, 1);
        });
        edge(where, "one that has most may not be then", () -> {
            PremiumHours desk = Desk.with("premium day 1 60;premium day 0 50;");
            work(desk, 0, 0, 2);
            quartersAre(desk, 0, 3, 1, 0);
        });
        edge(where, "none may be", () -> {
            PremiumHours desk = Desk.with("premium day 1 60;");
            work(desk, 0, 0, 1);
            quartersAre(desk, 0, 3, NONE);
        });
        edge(where, "1 hundredth is more than PLAIN", () -> {
            PremiumHours desk = Desk.with("premium day 0 1;");
            work(desk, 0, 0, 1);
            quartersAre(desk, 0, 3, 0);
        });
        edge(where, "week ones by what COUNTS as they come, not the BEST way", () -> {
            PremiumHours desk = Desk.with("premium day 0 10;premium week 2 100;");
            work(desk, 0, 0, 4);
            quartersAre(desk, 0, 3, 0, 0, 0, 0);
            is(desk.counted(0, 0, true), 0);
        });
        edge(where, "week ones by what COUNTS as they come", () -> {
            PremiumHours desk = Desk.with("premium day 0 10 counts;premium week 2 100;");
            work(desk, 0, 0, 4);
            quartersAre(desk, 0, 3, 0, 0, 1, 1);
            is(desk.counted(0, 0, true), 2);
        });
    }

    private static void best() {
        String where = "Terms 3, BEST, 'all QUARTERS of it so that PAY is most'";
        edge(where, "a PREMIUM waits for more", () -> {
            PremiumHours desk = Desk.with("premium day 0 10;premium week 2 100;");
            work(desk, 0, 0, 4);
            quartersAre(desk, 0, 2, NONE, NONE, 1, 1);
            is(desk.pay(0, 0, false), 100 * 600);
            is(desk.pay(0, 0, true), 100 * 440);
        });
        edge(where, "it would wait for less; with one QUARTER more for as much", () -> {
            PremiumHours desk = Desk.with("premium day 0 60;premium week 2 100;");
            work(desk, 0, 0, 4);
            quartersAre(desk, 0, 2, 0, 0, 0, 0);
            work(desk, 0, 1, 1);
            is(desk.pay(0, 0, false), 100 * 800);
            quartersAre(desk, 0, 2, NONE, NONE, 1, 1);
            quartersAre(desk, 96, 2, 1);
        });
        int[] week = {149, 150, 151};
        for (int hundredths : week) {
            edge(where, "it would wait for " + (hundredths - 150) + " hundredths more", () -> {
                PremiumHours desk = Desk.with("rate 1;premium day 0 50;premium week 2 " + hundredths + ";");
                work(desk, 0, 0, 3);
                int first = hundredths == 149 ? 0 : NONE;
                quartersAre(desk, 0, 2, first, first, hundredths == 149 ? 0 : 1);
                is(desk.pay(0, 0, false), 300 + Math.max(150, hundredths));
                is(desk.pay(0, 0, true), 450);
            });
        }
        edge(where, "nothing waits where a week PREMIUM of 0 pays at once", () -> {
            PremiumHours desk = Desk.with("rate 1;premium week 0 50;premium week 3 60;");
            work(desk, 0, 0, 4);
            quartersAre(desk, 0, 2, 0, 0, 0, 0);
            is(desk.pay(0, 0, false), 600);
        });
        edge(where, "none of 24 waits, though it would from the 17th on if 16 had waited", () -> {
            PremiumHours desk = Desk.with("rate 1;premium day 0 50;premium week 17 100;");
            work(desk, 0, 0, 24);
            is(desk.day(0, 0, 0), 24);
            is(desk.total(), 24 * 150);
        });
        edge(where, "of 280 QUARTERS of a week 160 are PLAIN, the first 160, as they come others", () -> {
            PremiumHours desk = Desk.with("rate 1;premium day 32 50;premium week 160 50;");
            for (int day = 0; day < 7; day++) {
                work(desk, 0, day, 40);
            }
            is(desk.pay(0, 0, false), 280 * 100 + 120 * 50);
            is(desk.pay(0, 0, true), 280 * 100 + 120 * 50);
            for (int day = 0; day < 7; day++) {
                is(desk.day(0, day, NONE), day < 4 ? 40 : 0);
                is(desk.quarter(0, 96 * day + 31, 3), day < 5 ? NONE : 1);
            }
            is(desk.quarter(0, 96 * 4, 2), 1);
            is(desk.quarter(0, 96 * 4 + 32, 2), 0);
        });
        edge(where, "less at once, with counts, for more later", () -> {
            PremiumHours desk = Desk.with("premium day 0 50;premium day 0 40 counts;premium week 1 61;");
            work(desk, 0, 0, 2);
            quartersAre(desk, 0, 2, 1, 2);
            quartersAre(desk, 0, 3, 0, 0);
        });
        edge(where, "a PREMIUM waits for the last of 8", () -> {
            PremiumHours desk = Desk.with("rate 1;" + "premium day 0 10;".repeat(7) + "premium week 2 100;");
            work(desk, 0, 0, 4);
            quartersAre(desk, 0, 2, NONE, NONE, 7, 7);
            quartersAre(desk, 0, 4, 127, 127, 255, 255);
            is(desk.total(), 600);
        });
        edge(where, "it COUNTS on a holiday for a week's last DAY", () -> {
            PremiumHours desk = Desk.with("holiday 0;premium holiday 100;premium week 4 300;");
            work(desk, 0, 0, 4);
            work(desk, 0, 6, 4);
            quartersAre(desk, 0, 2, NONE, NONE, NONE, NONE);
            quartersAre(desk, 576, 2, 1, 1, 1, 1);
            is(desk.pay(0, 0, false), 100 * 2000);
            is(desk.pay(0, 0, true), 100 * 1200);
        });
        edge("Terms 3, BEST, 'of a WORKER's week'", "nothing waits for another week", () -> {
            PremiumHours desk = Desk.with("holiday 0;premium holiday 100;premium week 4 300;");
            work(desk, 0, 0, 4);
            work(desk, 0, 7, 4);
            quartersAre(desk, 0, 2, 0, 0, 0, 0);
            quartersAre(desk, 672, 2, NONE, NONE, NONE, NONE);
        });
        edge("Terms 3, BEST, 'of a WORKER's week'", "nothing waits for another WORKER", () -> {
            PremiumHours desk = Desk.with("holiday 0;premium holiday 100;premium week 4 300;");
            work(desk, 0, 0, 4);
            work(desk, 1, 1, 4);
            quartersAre(desk, 0, 2, 0, 0, 0, 0);
        });
        edge("Terms 3, 'All is BEST, where nothing else is said'", "what is PAID, PAY of weeks, DAYS, all", () -> {
            PremiumHours desk = Desk.with("premium day 0 10;premium week 2 100;");
            work(desk, 0, 0, 4);
            is(desk.day(0, 0, 0), 0);
            is(desk.week(0, 0, 1), 2);
            is(desk.counted(0, 0, false), 2);
            is(desk.dayPay(0, 0), 60000);
            is(desk.pay(0, 0, false), 60000);
            is(desk.total(), 60000);
            is(desk.worth(1), 60000 - 44000);
        });
    }

    private static void bestOfSeveral() {
        String where = "Terms 3, BEST, 'of several such ways the first: at the first QUARTER where they are unlike PLAIN"
            + " ahead of PREMIUMS, these by numbers'";
        edge(where, "PLAIN and then more, or one PREMIUM twice", () -> {
            PremiumHours desk = Desk.with("premium day 0 50;premium week 1 100;");
            work(desk, 0, 0, 2);
            quartersAre(desk, 0, 2, NONE, 1);
        });
        edge(where, "unlike at the second one first", () -> {
            PremiumHours desk = Desk.with("premium week 1 100;premium week 3 200;");
            work(desk, 0, 0, 5);
            quartersAre(desk, 0, 2, NONE, NONE, NONE, 1, 1);
            quartersAre(desk, 0, 3, NONE, 0, 0, 0, 0);
            is(desk.pay(0, 0, false), 90000);
            is(desk.pay(0, 0, true), 90000);
        });
        edge(where, "of two alike the lower number", () -> {
            PremiumHours desk = Desk.with("premium day 0 50;premium day 0 50;");
            work(desk, 0, 0, 2);
            quartersAre(desk, 0, 2, 0, 0);
        });
        edge(where, "of two as good the lower number, that one counting", () -> {
            PremiumHours desk = Desk.with("premium day 0 50 counts;premium day 0 50;premium week 1 50;");
            work(desk, 0, 0, 2);
            quartersAre(desk, 0, 2, 0, 0);
        });
        edge(where, "of two as good the lower number, the other one counting", () -> {
            PremiumHours desk = Desk.with("premium day 0 50;premium day 0 50 counts;premium week 1 50;");
            work(desk, 0, 0, 2);
            quartersAre(desk, 0, 2, 0, 0);
        });
        edge(where, "the lower number is not as good: the other one counts for more", () -> {
            PremiumHours desk = Desk.with("premium day 0 50;premium day 0 50 counts;premium week 1 51;");
            work(desk, 0, 0, 2);
            quartersAre(desk, 0, 2, 1, 2);
        });
        edge(where, "a week PREMIUM of a lower number", () -> {
            PremiumHours desk = Desk.with("premium week 1 50;premium day 0 50 counts;");
            work(desk, 0, 0, 2);
            quartersAre(desk, 0, 2, 1, 0);
        });
        edge(where, "the 8th alone is good", () -> {
            PremiumHours desk = Desk.with("premium day 1 300;".repeat(7) + "premium day 0 1;");
            work(desk, 0, 0, 1);
            quartersAre(desk, 0, 2, 7);
        });
        edge(where, "PLAIN is not ahead where it pays less", () -> {
            PremiumHours desk = Desk.with("premium day 0 1;");
            work(desk, 0, 0, 3);
            quartersAre(desk, 0, 2, 0, 0, 0);
        });
    }

    // ---- promise 13

    private static void quarter() {
        String none = "Promise 13, '-2: it isn't WORKED'";
        PremiumHours desk = Desk.with("meal 4 2;premium day 2 50;");
        work(desk, 0, 2, 8);
        for (int quarter : new int[] {-1, -2, 0, 191, 200, 2687, 2688, 2692, MIN, MAX}) {
            edge(none, "QUARTER " + quarter, () -> {
                for (int what = 0; what < 5; what++) {
                    is(desk.quarter(0, quarter, what), -2);
                }
            });
        }
        edge(none, "the first and the last QUARTER of a meal", () -> {
            is(desk.quarter(0, 195, 0), 2);
            is(desk.quarter(0, 196, 0), -2);
            is(desk.quarter(0, 197, 0), -2);
            is(desk.quarter(0, 198, 0), 2);
        });
        edge(none, "another WORKER's is", () -> {
            is(desk.quarter(0, 192, 0), 2);
            is(desk.quarter(1, 192, 0), -2);
            is(desk.quarter(3, 192, 4), -2);
        });
        edge(none, "it was, and is struck or taken back", () -> {
            PremiumHours one = new PremiumHours();
            work(one, 0, 0, 4);
            is(one.quarter(0, 0, 0), 0);
            one.strike(0, 0, 0, false);
            is(one.quarter(0, 0, 0), -2);
            one.undo();
            is(one.quarter(0, 0, 0), 0);
            one.undo();
            is(one.quarter(0, 0, 0), -2);
        });
        String refused = "Promise 13, 'NoSuchElementException: others, no such WORKER'";
        for (int what : new int[] {-1, 5, MIN, MAX}) {
            edge(refused, "what " + what, () -> EDGES.noSuchElement(() -> desk.quarter(0, 192, what)));
        }
        for (int worker : new int[] {-1, 4, MIN, MAX}) {
            edge(refused, "WORKER " + worker, () -> EDGES.noSuchElement(() -> desk.quarter(worker, 192, 0)));
        }
    }

    private static void ends(String which, String rules, int comes, int last, boolean again) {
        edge("Promise 13, 'what 0: DAY, 1: HOUR'", which, () -> {
            PremiumHours desk = Desk.with(rules);
            desk.punch(0, COMES, 27, comes, false);
            desk.punch(0, GOES, 27, 1439, again);
            is(desk.quarter(0, last, 0), 27);
            is(desk.quarter(0, last, 1), 23);
            is(desk.quarter(0, last + 1, 0), -2);
            is(desk.quarter(0, last + 1, 1), -2);
        });
    }

    private static void quarterTells() {
        String where = "Promise 13, 'what 0: DAY, 1: HOUR'";
        edge(where, "the first QUARTER of all", () -> {
            PremiumHours desk = new PremiumHours();
            work(desk, 3, 0, 1);
            is(desk.quarter(3, 0, 0), 0);
            is(desk.quarter(3, 0, 1), 0);
        });
        ends("the last of all", "", 1380, 2687, false);
        ends("the last of all, put back", "clock 9 9 back;", 1380, 2691, false);
        ends("the last of all, put back in the last HOUR", "clock 27 23 back;", 1380, 2691, true);
        ends("the last of all, put forward", "clock 9 9 forward;", 1380, 2683, false);
        edge(where, "over midnight", () -> {
            PremiumHours desk = new PremiumHours();
            desk.punch(0, COMES, 6, 1425, false);
            desk.punch(0, GOES, 7, 15, false);
            quartersAre(desk, 671, 0, 6, 7);
            quartersAre(desk, 671, 1, 23, 0);
        });
        edge(where, "the first HOUR of all is put forward: QUARTER 0 is of HOUR 1", () -> {
            PremiumHours desk = Desk.with("clock 0 0 forward;");
            Desk.work(desk, 0, 0, 60, 75);
            quartersAre(desk, 0, 0, 0);
            quartersAre(desk, 0, 1, 1);
        });
        edge(where, "the last HOUR of a DAY is put forward: midnight comes an hour early", () -> {
            PremiumHours desk = Desk.with("clock 6 23 forward;");
            desk.punch(0, COMES, 6, 1365, false);
            desk.punch(0, GOES, 7, 15, false);
            quartersAre(desk, 667, 0, 6, 7);
            quartersAre(desk, 667, 1, 22, 0);
            is(desk.week(0, 0, WORKED), 1);
            is(desk.week(0, 1, WORKED), 1);
        });
        edge(where, "the last HOUR of a DAY is put back: midnight comes an hour late", () -> {
            PremiumHours desk = Desk.with("clock 6 23 back;");
            desk.punch(0, COMES, 6, 1425, true);
            desk.punch(0, GOES, 7, 15, false);
            quartersAre(desk, 675, 0, 6, 7);
            quartersAre(desk, 675, 1, 23, 0);
            is(desk.week(0, 0, WORKED), 1);
            is(desk.week(0, 1, WORKED), 1);
        });
        edge("Promise 13, '2: (NONE: PLAIN), 3: as they come, 4: as bits'", "none may be", () -> {
            PremiumHours desk = Desk.with("premium day 9 50;");
            work(desk, 0, 0, 1);
            quartersAre(desk, 0, 2, NONE);
            quartersAre(desk, 0, 3, NONE);
            quartersAre(desk, 0, 4, 0);
        });
        edge("Promise 13, '4: PREMIUMS that may be, as bits'", "the first, the last of 8, all", () -> {
            String none = "premium day 9 50;";
            for (int bits : new int[] {1, 128, 129, 254, 255}) {
                StringBuilder rules = new StringBuilder();
                for (int premium = 0; premium < 8; premium++) {
                    rules.append((bits >> premium & 1) == 1 ? "premium day 0 50;" : none);
                }
                PremiumHours desk = Desk.with(rules.toString());
                work(desk, 0, 0, 1);
                is(desk.quarter(0, 0, 4), bits);
            }
        });
        edge("Promise 13, '(week ones by what COUNTS in the BEST way)'", "not as they come", () -> {
            PremiumHours waits = Desk.with("premium day 0 10;premium week 2 100;");
            work(waits, 0, 0, 4);
            quartersAre(waits, 0, 4, 1, 1, 3, 3);
            PremiumHours comes = Desk.with("premium day 0 50;premium day 0 49 counts;premium week 1 52;");
            work(comes, 0, 0, 2);
            quartersAre(comes, 0, 4, 3, 7);
            quartersAre(comes, 0, 3, 0, 0);
        });
    }

    // ---- promises 14 and 15

    private static void weeks() {
        String where = "Terms 2, 'Weeks: DAYS 0 to 6 are week 0, and so on'";
        for (int day : new int[] {0, 6, 7, 13, 14, 20, 21, 27}) {
            edge(where, "DAY " + day, () -> {
                PremiumHours desk = new PremiumHours();
                Desk.work(desk, 2, day, 0, 15);
                Desk.work(desk, 2, day, 1425, 1439);
                for (int week = 0; week < 4; week++) {
                    int quarters = week == day / 7 ? 2 : 0;
                    is(desk.week(2, week, WORKED), quarters);
                    is(desk.week(2, week, NONE), quarters);
                    is(desk.counted(2, week, false), quarters);
                    is(desk.counted(2, week, true), quarters);
                    is(desk.pay(2, week, false), 10000 * quarters);
                    is(desk.pay(2, week, true), 10000 * quarters);
                }
            });
        }
    }

    private static void day() {
        String where = "Promise 14, 'NONE: others'";
        PremiumHours desk = Desk.with("premium day 2 50;premium day 3 60;");
        work(desk, 0, 2, 4);
        for (int worker : new int[] {-1, 4, MIN, MAX}) {
            edge(where, "WORKER " + worker, () -> is(desk.day(worker, 2, WORKED), NONE));
        }
        for (int day : new int[] {-1, 28, MIN, MAX}) {
            edge(where, "DAY " + day, () -> is(desk.day(0, day, WORKED), NONE));
        }
        for (int premium : new int[] {-3, 2, 8, MIN, MAX}) {
            edge(where, "PREMIUM " + premium + " of two", () -> is(desk.day(0, 2, premium), NONE));
        }
        edge(where, "PREMIUM 0 of none, 8 of 8", () -> {
            is(new PremiumHours().day(0, 0, 0), NONE);
            is(Desk.with("premium seventh 5;".repeat(8)).day(0, 0, 7), 0);
            is(Desk.with("premium seventh 5;".repeat(8)).day(0, 0, 8), NONE);
        });
        String what = "Promise 14, 'WORKED (premium -2), PAID PLAIN (NONE), under a PREMIUM'";
        edge(what, "-2, -1, 0, the last", () -> {
            is(desk.day(0, 2, -2), 4);
            is(desk.day(0, 2, -1), 2);
            is(desk.day(0, 2, 0), 1);
            is(desk.day(0, 2, 1), 1);
        });
        edge(what, "nothing is WORKED on that DAY", () -> {
            for (int premium = -2; premium < 2; premium++) {
                is(desk.day(0, 1, premium), 0);
                is(desk.day(0, 3, premium), 0);
            }
        });
        edge("Promise 14, 'QUARTERS of a WORKER's DAY'", "the first and the last QUARTER of DAYS 0 and 27", () -> {
            PremiumHours ends = new PremiumHours();
            for (int day = 0; day < 28; day += 27) {
                Desk.work(ends, 0, day, 0, 15);
                Desk.work(ends, 0, day, 1425, 1439);
                is(ends.day(0, day, WORKED), 2);
            }
            is(ends.day(0, 1, WORKED), 0);
            is(ends.day(0, 26, WORKED), 0);
        });
        String[] rules = {"", "clock 9 23 forward;", "clock 9 0 forward;", "clock 9 23 back;", "clock 9 0 back;"};
        int[] quarters = {96, 92, 92, 100, 100};
        for (int i = 0; i < rules.length; i++) {
            int due = quarters[i];
            String clock = rules[i];
            edge("Promise 14, 'QUARTERS of a WORKER's DAY'", "all DAY, " + due + ": " + clock, () -> {
                PremiumHours all = Desk.with("longest 24;" + clock);
                all.punch(0, COMES, 8, 720, false);
                all.punch(0, GOES, 9, 600, false);
                all.punch(0, COMES, 9, 601, false);
                all.punch(0, GOES, 10, 480, false);
                is(all.day(0, 8, WORKED), 48);
                is(all.day(0, 9, WORKED), due);
                is(all.day(0, 10, WORKED), 32);
            });
        }
    }

    private static void week() {
        String where = "Promise 15, 'Likewise of a week' (NONE: others)";
        PremiumHours desk = Desk.with("premium day 2 50;premium day 3 60;");
        work(desk, 0, 2, 4);
        for (int worker : new int[] {-1, 4, MIN, MAX}) {
            edge(where, "WORKER " + worker, () -> is(desk.week(worker, 0, WORKED), NONE));
        }
        for (int week : new int[] {-1, 4, MIN, MAX}) {
            edge(where, "week " + week, () -> is(desk.week(0, week, WORKED), NONE));
        }
        for (int premium : new int[] {-3, 2, 8, MIN, MAX}) {
            edge(where, "PREMIUM " + premium + " of two", () -> is(desk.week(0, 0, premium), NONE));
        }
        edge(where, "PREMIUM 0 of none, 8 of 8", () -> {
            is(new PremiumHours().week(0, 0, 0), NONE);
            is(Desk.with("premium seventh 5;".repeat(8)).week(0, 0, 7), 0);
            is(Desk.with("premium seventh 5;".repeat(8)).week(0, 0, 8), NONE);
        });
        edge("Promise 15, 'Likewise of a week'", "-2, -1, 0, the last", () -> {
            is(desk.week(0, 0, -2), 4);
            is(desk.week(0, 0, -1), 2);
            is(desk.week(0, 0, 0), 1);
            is(desk.week(0, 0, 1), 1);
        });
        edge("Promise 15, 'Likewise of a week'", "nothing is WORKED in that week", () -> {
            for (int premium = -2; premium < 2; premium++) {
                is(desk.week(0, 1, premium), 0);
                is(desk.week(0, 3, premium), 0);
            }
        });
        edge("Promise 15, 'Likewise of a week'", "of the first and the last DAY of a week", () -> {
            PremiumHours ends = Desk.with("premium day 1 50;");
            work(ends, 0, 7, 2);
            work(ends, 0, 13, 3);
            is(ends.week(0, 1, WORKED), 5);
            is(ends.week(0, 1, NONE), 2);
            is(ends.week(0, 1, 0), 3);
        });
    }

    // ---- promises 16 to 19

    private static void counted() {
        String where = "Promise 16, 'NONE: others'";
        PremiumHours desk = new PremiumHours();
        work(desk, 0, 0, 4);
        for (int worker : new int[] {-1, 4, MIN, MAX}) {
            edge(where, "WORKER " + worker, () -> {
                is(desk.counted(worker, 0, false), NONE);
                is(desk.counted(worker, 0, true), NONE);
            });
        }
        for (int week : new int[] {-1, 4, MIN, MAX}) {
            edge(where, "week " + week, () -> {
                is(desk.counted(0, week, false), NONE);
                is(desk.counted(0, week, true), NONE);
            });
        }
        edge("Promise 16, 'QUARTERS of a week that COUNT'", "all, none of those that are WORKED, none WORKED", () -> {
            is(desk.counted(0, 0, false), 4);
            is(desk.counted(0, 0, true), 4);
            is(desk.counted(0, 1, false), 0);
            is(desk.counted(0, 1, true), 0);
            PremiumHours none = Desk.with("premium day 0 50;");
            work(none, 0, 0, 4);
            is(none.counted(0, 0, false), 0);
            is(none.counted(0, 0, true), 0);
        });
        edge("Promise 16, '(asTheyCome: as they come)'", "unlike the BEST way", () -> {
            PremiumHours waits = Desk.with("premium day 0 10;premium week 2 100;");
            work(waits, 0, 0, 4);
            is(waits.counted(0, 0, false), 2);
            is(waits.counted(0, 0, true), 0);
        });
    }

    private static void pay() {
        String where = "Promise 17, 'NONE: others'";
        PremiumHours desk = new PremiumHours();
        work(desk, 0, 0, 4);
        for (int worker : new int[] {-1, 4, MIN, MAX}) {
            edge(where, "WORKER " + worker, () -> {
                is(desk.pay(worker, 0, false), NONE);
                is(desk.pay(worker, 0, true), NONE);
            });
        }
        for (int week : new int[] {-1, 4, MIN, MAX}) {
            edge(where, "week " + week, () -> {
                is(desk.pay(0, week, false), NONE);
                is(desk.pay(0, week, true), NONE);
            });
        }
        edge("Promise 17, 'PAY of a WORKER's week'", "nothing is WORKED", () -> {
            is(desk.pay(0, 1, false), 0);
            is(desk.pay(3, 0, true), 0);
        });
        edge("Promise 17, 'PAY of a WORKER's week'", "the most there is: 676 QUARTERS", () -> {
            PremiumHours most = Desk.with("longest 24;clock 3 3 back;rate 400;premium day 0 300;");
            for (int day = 0; day < 7; day++) {
                workAllDay(most, 0, day);
            }
            is(most.pay(0, 0, false), 676 * 160000);
            is(most.pay(0, 0, true), 676 * 160000);
        });
        edge("Promise 17, '(asTheyCome: as they come)'", "unlike the BEST way", () -> {
            PremiumHours waits = Desk.with("premium day 0 10;premium week 2 100;");
            work(waits, 0, 0, 4);
            is(waits.pay(0, 0, false), 60000);
            is(waits.pay(0, 0, true), 44000);
        });
    }

    private static void dayPay() {
        String where = "Promise 18, 'NONE: others'";
        PremiumHours desk = new PremiumHours();
        work(desk, 0, 0, 4);
        for (int worker : new int[] {-1, 4, MIN, MAX}) {
            edge(where, "WORKER " + worker, () -> is(desk.dayPay(worker, 0), NONE));
        }
        for (int day : new int[] {-1, 28, MIN, MAX}) {
            edge(where, "DAY " + day, () -> is(desk.dayPay(0, day), NONE));
        }
        edge("Promise 18, 'PAY of a WORKER's DAY'", "nothing is WORKED", () -> {
            is(desk.dayPay(0, 1), 0);
            is(desk.dayPay(3, 27), 0);
        });
        edge("Promise 18, 'PAY of a WORKER's DAY'", "the first and the last QUARTER of DAYS 0 and 27", () -> {
            PremiumHours ends = new PremiumHours();
            for (int day = 0; day < 28; day += 27) {
                Desk.work(ends, 0, day, 0, 15);
                Desk.work(ends, 0, day, 1425, 1439);
                is(ends.dayPay(0, day), 20000);
            }
            is(ends.dayPay(0, 1), 0);
            is(ends.dayPay(0, 26), 0);
        });
        edge("Promise 18, 'PAY of a WORKER's DAY'", "over midnight, in the BEST way of the week", () -> {
            PremiumHours waits = Desk.with("premium day 0 10;premium week 2 100;");
            waits.punch(0, COMES, 2, 1410, false);
            waits.punch(0, GOES, 3, 30, false);
            is(waits.dayPay(0, 2), 20000);
            is(waits.dayPay(0, 3), 40000);
        });
    }

    /** A WORKER's SPAN becomes another one, asked for ahead and behind. */
    private static void moved(String which, int day, int comes, int goes, int newComes, int newGoes, int due) {
        edge("Promise 19, 'All PAY', of late and struck PUNCHES", which, () -> {
            PremiumHours desk = new PremiumHours();
            Desk.work(desk, 0, day, comes, goes);
            is(desk.total(), 40000);
            desk.strike(0, day, comes, false);
            desk.strike(0, day, goes, false);
            Desk.work(desk, 0, day, newComes, newGoes);
            is(desk.total(), 10000 * due);
            is(desk.dayPay(0, day), 10000 * due);
            is(desk.week(0, day / 7, WORKED), due);
        });
    }

    private static void moved() {
        moved("from a week's first QUARTER on, then from the next one on", 7, 0, 60, 15, 60, 3);
        moved("to a week's last QUARTER, then to the one ahead", 6, 1380, 1439, 1380, 1425, 3);
        moved("from a week's second QUARTER on, then from the first one on", 7, 15, 75, 0, 75, 5);
        moved("to a week's last QUARTER but one, then to the last", 6, 1365, 1425, 1365, 1439, 5);
        moved("a QUARTER more at the beginning", 9, 600, 660, 585, 660, 5);
        moved("a QUARTER more at the end", 9, 600, 660, 600, 675, 5);
        moved("a QUARTER later, as many", 9, 600, 660, 615, 675, 4);
        moved("a QUARTER less at the beginning", 9, 600, 660, 615, 660, 3);
        moved("a QUARTER less at the end", 9, 600, 660, 600, 645, 3);
        moved("to midnight, then to the next QUARTER ahead of it, on the last DAY", 27, 1380, 1439, 1380, 1425, 3);
        edge("Promise 19, 'All PAY', of late and struck PUNCHES", "a SPAN over a week's end is shorter in either", () -> {
            PremiumHours desk = new PremiumHours();
            desk.punch(0, COMES, 6, 1410, false);
            desk.punch(0, GOES, 7, 30, false);
            is(desk.total(), 40000);
            desk.punch(0, GOES, 7, 15, false);
            is(desk.total(), 30000);
            is(desk.pay(0, 1, false), 10000);
            desk.punch(0, COMES, 6, 1425, false);
            is(desk.total(), 20000);
            is(desk.pay(0, 0, false), 10000);
            desk.punch(0, GOES, 6, 1438, false);
            is(desk.total(), 10000);
            is(desk.pay(0, 1, false), 0);
        });
    }

    private static void struckAndTakenBack() {
        edge("Promise 19, 'All PAY', of late and struck PUNCHES", "of two SPANS one is struck, and taken back", () -> {
            PremiumHours desk = new PremiumHours();
            Desk.work(desk, 0, 9, 600, 660);
            Desk.work(desk, 0, 9, 900, 960);
            is(desk.total(), 80000);
            desk.punch(0, GOES, 20, 0, false);
            is(desk.total(), 80000);
            desk.strike(0, 9, 960, false);
            is(desk.total(), 40000);
            is(desk.pay(0, 1, false), 40000);
            desk.undo();
            is(desk.total(), 80000);
            is(desk.pay(0, 1, false), 80000);
            desk.strike(0, 9, 600, false);
            is(desk.total(), 40000);
            is(desk.quarter(0, 904, 0), -2);
        });
    }

    private static void total() {
        String where = "Promise 19, 'All PAY'";
        edge(where, "of no PUNCHES", () -> is(new PremiumHours().total(), 0));
        edge(where, "of PUNCHES that are no SPAN, of a SPAN of no QUARTER", () -> {
            PremiumHours desk = new PremiumHours();
            desk.punch(0, COMES, 0, 0, false);
            desk.punch(1, GOES, 0, 0, false);
            Desk.work(desk, 2, 0, 600, 601);
            is(desk.total(), 0);
        });
        for (int worker = 0; worker < 4; worker++) {
            int alone = worker;
            edge(where, "WORKER " + worker + " alone, on DAYS 0 and 27", () -> {
                PremiumHours desk = new PremiumHours();
                work(desk, alone, 0, 1);
                Desk.work(desk, alone, 27, 1425, 1439);
                is(desk.total(), 20000);
            });
        }
        edge(where, "the most there is: all WORK all QUARTERS, of 28 DAYS and an hour", () -> {
            PremiumHours desk = Desk.with("longest 24;rate 400;premium day 0 300;clock 20 3 back;");
            for (int worker = 0; worker < 4; worker++) {
                for (int day = 0; day < 28; day++) {
                    desk.punch(worker, COMES, day, 0, false);
                    if (day == 20) {
                        desk.punch(worker, GOES, day, 720, false);
                        desk.punch(worker, COMES, day, 721, false);
                    }
                    desk.punch(worker, GOES, day, 1439, false);
                }
            }
            is(desk.total(), 4 * 2692 * 160000);
        });
    }
}
