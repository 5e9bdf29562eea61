import java.util.NoSuchElementException;

/** A desk for premium hours: ../shared/DOC.md says, promise by promise, what it answers. */
public final class PremiumHours {
    public static final int NONE = -1;

    private static final int NOT_WORKED = -2;
    /** The least int, in digits: LANGUAGE.md lists functions of Integer, no constants of it. */
    private static final int REFUSED = -2147483648;
    private static final int WORKERS = 4;
    private static final int PUNCHES = 60;
    private static final int DAYS = 28;
    private static final int WEEKS = 4;
    private static final int WEEK_DAYS = 7;
    private static final int DAY_MINUTES = 1440;
    private static final int QUARTER_MINUTES = 15;
    private static final int PREMIUMS = 8;
    private static final int ALL_PREMIUMS = (1 << PREMIUMS) - 1;
    /** An hour told twice makes four QUARTERS more than four weeks, or one week, have else. */
    private static final int QUARTERS = DAYS * 96 + 4;
    private static final int WEEK_QUARTERS = WEEK_DAYS * 96 + 4;

    private static final int DAY = 0;
    private static final int WEEK = 1;
    private static final int SEVENTH = 2;
    private static final int NIGHT = 3;
    private static final int HOLIDAY = 4;

    private static final int COMES = 0;
    private static final int GOES = 1;
    private static final int EITHER = 2;

    private final Tape tape;
    private final RuleReader reader;
    private Rules inForce;
    private Rules spare;
    private final Card[] cards;
    private final Sheet[] sheets;
    private final History history;
    private final Card trialCard;
    private final Sheet trialSheet;
    private final BestWay way;

    public PremiumHours() {
        tape = new Tape();
        reader = new RuleReader();
        inForce = new Rules();
        spare = new Rules();
        cards = new Card[WORKERS];
        sheets = new Sheet[WORKERS];
        for (int worker = 0; worker < WORKERS; worker++) {
            cards[worker] = new Card();
            sheets[worker] = new Sheet();
        }
        history = new History();
        trialCard = new Card();
        trialSheet = new Sheet();
        way = new BestWay();
    }

    // ---- rules

    public int feed(int a, int b, int c, int d, int e) {
        if (!tape.hasRoom(20)) {
            return NONE;
        }
        tape.put(a);
        tape.put(b);
        tape.put(c);
        tape.put(d);
        tape.put(e);
        return tape.size;
    }

    public int rules(int n) {
        if (n < 0 || n > tape.size) {
            return NONE;
        }
        int fault = reader.read(tape, n, spare);
        tape.size = 0;
        if (fault != NONE) {
            return -2 - fault;
        }
        replaceRules();
        return inForce.premiumCount;
    }

    private void replaceRules() {
        boolean otherClock = !inForce.clock.sameAs(spare.clock);
        Rules old = inForce;
        inForce = spare;
        spare = old;
        history.size = 0;
        trialSheet.forget();
        for (int worker = 0; worker < WORKERS; worker++) {
            sheets[worker].forget();
            if (otherClock) {
                cards[worker].size = 0;
            }
        }
    }

    public int count(int what) {
        switch (what) {
            case 0: return inForce.premiumCount;
            case 1: return inForce.holidayCount;
            case 2: return inForce.round;
            case 3: return inForce.mealAfter;
            case 4: return inForce.mealLength;
            case 5: return inForce.longest;
            case 6: return inForce.rate;
            case 7: return inForce.clock.day;
            case 8: return inForce.clock.hour;
            case 9: return inForce.clock.sort;
            case 10: return tape.size;
            case 11: return history.size;
            default: return NONE;
        }
    }

    public int premium(int premium, int what) throws NoSuchElementException {
        if (!isPremium(premium) || what < 0 || what > 4) {
            throw new NoSuchElementException();
        }
        Premium told = inForce.premiums[premium];
        switch (what) {
            case 0: return told.kind;
            case 1: return told.hundredths;
            case 2: return told.counts ? 1 : 0;
            case 3: return told.first;
            default: return told.second;
        }
    }

    public int moment(int day, int minute, boolean again) {
        return inForce.clock.momentAt(day, minute, again);
    }

    public int clock(int moment, int what) {
        if (moment < 0 || moment >= inForce.clock.momentsAhead(DAYS)) {
            return NONE;
        }
        int told = inForce.clock.toldAt(moment);
        switch (what) {
            case 0: return told / DAY_MINUTES;
            case 1: return told % DAY_MINUTES;
            case 2: return inForce.clock.isAgain(moment) ? 1 : 0;
            default: return NONE;
        }
    }

    // ---- punches

    public int punch(int worker, int kind, int day, int minute, boolean again) {
        int moment = freeMoment(worker, kind, day, minute, again);
        if (moment == NONE) {
            return NONE;
        }
        cards[worker].add(moment, kind);
        sheets[worker].stale = true;
        history.keep(worker, moment, kind, true);
        return cards[worker].size;
    }

    public int strike(int worker, int day, int minute, boolean again) {
        int moment = inForce.clock.momentAt(day, minute, again);
        if (!isWorker(worker) || moment == NONE) {
            return NONE;
        }
        int place = cards[worker].find(moment);
        if (place == NONE) {
            return NONE;
        }
        history.keep(worker, moment, cards[worker].kinds[place], false);
        cards[worker].removeAt(place);
        sheets[worker].stale = true;
        return cards[worker].size;
    }

    public int undo() {
        if (history.size == 0) {
            return NONE;
        }
        int last = history.size - 1;
        int worker = history.workers[last];
        if (history.came[last]) {
            cards[worker].removeAt(cards[worker].find(history.moments[last]));
        } else {
            cards[worker].add(history.moments[last], history.kinds[last]);
        }
        sheets[worker].stale = true;
        history.size = last;
        return last;
    }

    public int punched(int worker, int k, int what) {
        if (!isWorker(worker)) {
            return NONE;
        }
        Card card = cards[worker];
        if (k == NONE) {
            return card.size;
        }
        if (k < 0 || k >= card.size) {
            return NONE;
        }
        switch (what) {
            case 0: return card.moments[k];
            case 1: return card.kinds[k];
            case 2: return sheetOf(worker).roles[k];
            default: return NONE;
        }
    }

    public int span(int worker, int k, int what) {
        if (!isWorker(worker)) {
            return NONE;
        }
        Sheet sheet = sheetOf(worker);
        if (k == NONE) {
            return sheet.spanCount;
        }
        if (k < 0 || k >= sheet.spanCount) {
            return NONE;
        }
        switch (what) {
            case 0: return sheet.spanBegins[k];
            case 1: return sheet.spanEnds[k];
            case 2: return sheet.spanWorked[k];
            default: return NONE;
        }
    }

    // ---- quarters

    public int quarter(int worker, int quarter, int what) throws NoSuchElementException {
        if (!isWorker(worker) || what < 0 || what > 4) {
            throw new NoSuchElementException();
        }
        Sheet sheet = sheetOf(worker);
        // what lies behind DAY 27 may be left from a clock that had more QUARTERS
        if (quarter < 0 || quarter >= inForce.clock.quartersAhead(DAYS) || sheet.paid[quarter] == NOT_WORKED) {
            return NOT_WORKED;
        }
        switch (what) {
            case 0: return inForce.clock.toldAt(quarter * QUARTER_MINUTES) / DAY_MINUTES;
            case 1: return inForce.clock.hourAt(quarter * QUARTER_MINUTES);
            case 2: return sheet.paid[quarter];
            case 3: return sheet.came[quarter];
            default: return sheet.may[quarter];
        }
    }

    public int day(int worker, int day, int premium) {
        return day < 0 || day >= DAYS ? NONE : countDays(worker, day, day + 1, premium);
    }

    public int week(int worker, int week, int premium) {
        return isWeek(week) ? countDays(worker, week * WEEK_DAYS, week * WEEK_DAYS + WEEK_DAYS, premium) : NONE;
    }

    private int countDays(int worker, int fromDay, int toDay, int premium) {
        if (!isWorker(worker) || premium != NOT_WORKED && premium != NONE && !isPremium(premium)) {
            return NONE;
        }
        int[] paid = sheetOf(worker).paid;
        int to = inForce.clock.quartersAhead(toDay);
        int found = 0;
        for (int q = inForce.clock.quartersAhead(fromDay); q < to; q++) {
            if (premium == NOT_WORKED ? paid[q] != NOT_WORKED : paid[q] == premium) {
                found++;
            }
        }
        return found;
    }

    public int counted(int worker, int week, boolean asTheyCome) {
        if (!isWorker(worker) || !isWeek(week)) {
            return NONE;
        }
        Sheet sheet = sheetOf(worker);
        int[] row = asTheyCome ? sheet.came : sheet.paid;
        int to = inForce.clock.quartersAhead(week * WEEK_DAYS + WEEK_DAYS);
        int found = 0;
        for (int q = inForce.clock.quartersAhead(week * WEEK_DAYS); q < to; q++) {
            if (row[q] != NOT_WORKED && inForce.countsUnder(row[q])) {
                found++;
            }
        }
        return found;
    }

    public int pay(int worker, int week, boolean asTheyCome) {
        if (!isWorker(worker) || !isWeek(week)) {
            return NONE;
        }
        Sheet sheet = sheetOf(worker);
        int fromDay = week * WEEK_DAYS;
        return payOfDays(asTheyCome ? sheet.came : sheet.paid, fromDay, fromDay + WEEK_DAYS);
    }

    public int dayPay(int worker, int day) {
        if (!isWorker(worker) || day < 0 || day >= DAYS) {
            return NONE;
        }
        return payOfDays(sheetOf(worker).paid, day, day + 1);
    }

    private int payOfDays(int[] row, int fromDay, int toDay) {
        int to = inForce.clock.quartersAhead(toDay);
        int sum = 0;
        for (int q = inForce.clock.quartersAhead(fromDay); q < to; q++) {
            if (row[q] != NOT_WORKED) {
                sum += inForce.rate * (100 + inForce.hundredthsUnder(row[q]));
            }
        }
        return sum;
    }

    public int total() {
        int sum = 0;
        for (int worker = 0; worker < WORKERS; worker++) {
            sum += sheetOf(worker).allPay();
        }
        return sum;
    }

    // ---- what would be

    public int would(int worker, int kind, int day, int minute, boolean again) {
        int moment = freeMoment(worker, kind, day, minute, again);
        if (moment == NONE) {
            return REFUSED;
        }
        return payWith(worker, kind, moment) - sheetOf(worker).allPay();
    }

    public int dearest(int worker, int kind, int day) {
        int best = NONE;
        int bestPay = 0;
        for (int minute = 0; minute < DAY_MINUTES; minute += QUARTER_MINUTES) {
            int moment = freeMoment(worker, kind, day, minute, false);
            if (moment != NONE) {
                int pay = payWith(worker, kind, moment);
                if (best == NONE || pay > bestPay) {
                    best = minute;
                    bestPay = pay;
                }
            }
        }
        return best;
    }

    public int worth(int premium) {
        if (!isPremium(premium)) {
            return NONE;
        }
        int without = 0;
        for (int worker = 0; worker < WORKERS; worker++) {
            trialSheet.renew(cards[worker], inForce, ALL_PREMIUMS & ~(1 << premium), way);
            without += trialSheet.allPay();
        }
        return total() - without;
    }

    public int together(int worker, int other) {
        if (!isWorker(worker) || !isWorker(other) || worker == other) {
            return NONE;
        }
        int[] one = sheetOf(worker).paid;
        int[] two = sheetOf(other).paid;
        int to = inForce.clock.quartersAhead(DAYS);
        int found = 0;
        for (int q = 0; q < to; q++) {
            if (one[q] != NOT_WORKED && two[q] != NOT_WORKED) {
                found++;
            }
        }
        return found;
    }

    private static boolean isWorker(int worker) {
        return worker >= 0 && worker < WORKERS;
    }

    private static boolean isWeek(int week) {
        return week >= 0 && week < WEEKS;
    }

    private boolean isPremium(int premium) {
        return premium >= 0 && premium < inForce.premiumCount;
    }

    /** The MOMENT at which such a PUNCH can come, NONE if it is refused. */
    private int freeMoment(int worker, int kind, int day, int minute, boolean again) {
        if (!isWorker(worker) || kind < COMES || kind > EITHER) {
            return NONE;
        }
        int moment = inForce.clock.momentAt(day, minute, again);
        return moment == NONE || !cards[worker].takes(moment) ? NONE : moment;
    }

    private Sheet sheetOf(int worker) {
        Sheet sheet = sheets[worker];
        if (sheet.stale) {
            sheet.renew(cards[worker], inForce, ALL_PREMIUMS, way);
        }
        return sheet;
    }

    private int payWith(int worker, int kind, int moment) {
        trialCard.copy(cards[worker]);
        trialCard.add(moment, kind);
        trialSheet.renew(trialCard, inForce, ALL_PREMIUMS, way);
        return trialSheet.allPay();
    }

    private static final class Premium {
        int kind;
        int hundredths;
        boolean counts;
        int first;
        int second;

        boolean isAtNight(int hour) {
            boolean begun = hour >= first;
            boolean notOver = hour < second;
            return first > second ? begun || notOver : begun && notOver;
        }
    }

    private static final class Clock {
        static final int BACK = 0;
        static final int FORWARD = 1;

        int day = NONE;
        int hour = NONE;
        int sort = NONE;
        /** Where the hour begins that is left out or told twice: up to it MOMENTS are as told. */
        private int turn;
        /** How many MOMENTS more (or less) there are than are told. */
        private int shift;

        void set(int newDay, int newHour, int newSort) {
            day = newDay;
            hour = newHour;
            sort = newSort;
            turn = newDay * DAY_MINUTES + newHour * 60;
            shift = newSort == FORWARD ? -60 : newSort == BACK ? 60 : 0;
        }

        boolean sameAs(Clock other) {
            return day == other.day && hour == other.hour && sort == other.sort;
        }

        int momentAt(int ofDay, int minute, boolean again) {
            if (ofDay < 0 || ofDay >= DAYS || minute < 0 || minute >= DAY_MINUTES) {
                return NONE;
            }
            int told = ofDay * DAY_MINUTES + minute;
            if (sort != NONE && told >= turn && told < turn + 60) {
                return sort == FORWARD ? NONE : again ? told + 60 : told;
            }
            if (again) {
                return NONE;
            }
            return sort == NONE || told < turn ? told : told + shift;
        }

        /** What is told at a MOMENT, as minutes from DAY 0, MINUTE 0 on. */
        int toldAt(int moment) {
            if (sort == NONE) {
                return moment;
            }
            if (sort == FORWARD) {
                return moment < turn ? moment : moment + 60;
            }
            return moment < turn + 60 ? moment : moment - 60;
        }

        int hourAt(int moment) {
            return toldAt(moment) % DAY_MINUTES / 60;
        }

        boolean isAgain(int moment) {
            return sort == BACK && moment >= turn + 60 && moment < turn + 120;
        }

        int momentsAhead(int ofDay) {
            return ofDay * DAY_MINUTES + (day < ofDay ? shift : 0);
        }

        int quartersAhead(int ofDay) {
            return momentsAhead(ofDay) / QUARTER_MINUTES;
        }
    }

    private static final class Rules {
        static final int HOLIDAYS = 4;

        final Clock clock = new Clock();
        final Premium[] premiums = new Premium[PREMIUMS];
        int premiumCount;
        final int[] holidays = new int[HOLIDAYS];
        int holidayCount;
        int round;
        int mealAfter;
        int mealLength;
        int longest;
        int rate;

        Rules() {
            for (int i = 0; i < PREMIUMS; i++) {
                premiums[i] = new Premium();
            }
            clear();
        }

        void clear() {
            clock.set(NONE, NONE, NONE);
            premiumCount = 0;
            holidayCount = 0;
            round = 7;
            mealAfter = 0;
            mealLength = 0;
            longest = 16;
            rate = 100;
        }

        boolean isHoliday(int day) {
            for (int i = 0; i < holidayCount; i++) {
                if (holidays[i] == day) {
                    return true;
                }
            }
            return false;
        }

        boolean countsUnder(int premium) {
            return premium == NONE || premiums[premium].counts;
        }

        int hundredthsUnder(int premium) {
            return premium == NONE ? 0 : premiums[premium].hundredths;
        }

        int rounded(int moment) {
            int down = moment / QUARTER_MINUTES;
            return moment % QUARTER_MINUTES <= round ? down : down + 1;
        }

        /** The PREMIUMS, as bits, that may be whatever COUNTS in the week. */
        int steadyBits(int hour, int workedAhead, boolean seventh, boolean holiday) {
            int bits = 0;
            for (int i = 0; i < premiumCount; i++) {
                Premium premium = premiums[i];
                if (premium.kind == DAY && workedAhead >= premium.first
                        || premium.kind == SEVENTH && seventh
                        || premium.kind == NIGHT && premium.isAtNight(hour)
                        || premium.kind == HOLIDAY && holiday) {
                    bits |= 1 << i;
                }
            }
            return bits;
        }

        /** The week PREMIUMS, as bits, that may be when so many QUARTERS COUNT ahead. */
        int weekBits(int countedAhead) {
            int bits = 0;
            for (int i = 0; i < premiumCount; i++) {
                if (premiums[i].kind == WEEK && countedAhead >= premiums[i].first) {
                    bits |= 1 << i;
                }
            }
            return bits;
        }

        /** The first of these PREMIUMS with most hundredths, NONE of none. */
        int dearestOf(int bits) {
            int best = NONE;
            for (int i = 0; i < premiumCount; i++) {
                if ((bits >> i & 1) != 0 && hundredthsUnder(i) > hundredthsUnder(best)) {
                    best = i;
                }
            }
            return best;
        }

        /** The most hundredths of those of these PREMIUMS that count, or that don't. */
        int mostOf(int bits, boolean counts, int without) {
            int most = without;
            for (int i = 0; i < premiumCount; i++) {
                if ((bits >> i & 1) != 0 && premiums[i].counts == counts) {
                    most = Math.max(most, premiums[i].hundredths);
                }
            }
            return most;
        }

        /** The largest week number of these PREMIUMS that is less than size, 0 without. */
        int largestWeekBelow(int size, int bits) {
            int largest = 0;
            for (int i = 0; i < premiumCount; i++) {
                if ((bits >> i & 1) != 0 && premiums[i].kind == WEEK && premiums[i].first < size) {
                    largest = Math.max(largest, premiums[i].first);
                }
            }
            return largest;
        }
    }

    /** THE TAPE, and the TOKEN of it that is looked at. */
    private static final class Tape {
        static final int END = 0;
        static final int WORD = 1;
        static final int NUMBER = 2;
        static final int SEMICOLON = 3;
        static final int STRANGE = 4;

        final int[] bytes = new int[400];
        int size;
        int limit;
        int sort;
        int start;
        int end;

        boolean hasRoom(int more) {
            return size + more <= bytes.length;
        }

        void put(int number) {
            for (int shift = 24; shift >= 0; shift -= 8) {
                if (size < bytes.length) {
                    bytes[size] = number >> shift & 255;
                    size++;
                }
            }
        }

        void open(int n) {
            limit = Math.min(n, size);
            end = 0;
            advance();
        }

        void advance() {
            start = end;
            while (start < limit && (bytes[start] == ' ' || bytes[start] == '\n')) {
                start++;
            }
            end = Math.min(start + 1, limit);
            if (start >= limit) {
                sort = END;
            } else if (bytes[start] == ';') {
                sort = SEMICOLON;
            } else if (isLetter(bytes[start])) {
                sort = WORD;
                while (end < limit && isLetter(bytes[end])) {
                    end++;
                }
            } else if (isDigit(bytes[start])) {
                sort = NUMBER;
                while (end < limit && isDigit(bytes[end])) {
                    end++;
                }
            } else {
                sort = STRANGE;
            }
        }

        boolean tells(String word) {
            if (sort != WORD || end - start != word.length()) {
                return false;
            }
            for (int i = 0; i < word.length(); i++) {
                if (bytes[start + i] != word.charAt(i)) {
                    return false;
                }
            }
            return true;
        }

        /** What the NUMBER is, NONE if it has more than four digits. */
        int value() {
            if (end - start > 4) {
                return NONE;
            }
            int value = 0;
            for (int i = start; i < end; i++) {
                value = value * 10 + bytes[i] - '0';
            }
            return value;
        }

        private static boolean isLetter(int sign) {
            return sign >= 'a' && sign <= 'z';
        }

        private static boolean isDigit(int sign) {
            return sign >= '0' && sign <= '9';
        }
    }

    /** Reads RULES from left to right, so that the first FAULT found is the one whose place is least. */
    private static final class RuleReader {
        static final int WRONG_TOKEN = 1;
        static final int WRONG_NUMBER = 2;
        static final int TOO_MANY = 3;

        static final int CLOCK_TOLD = 1;
        static final int ROUND_TOLD = 2;
        static final int MEAL_TOLD = 4;
        static final int LONGEST_TOLD = 8;
        static final int RATE_TOLD = 16;

        private int fault;
        private int told;

        /** 8 * place + kind of the FAULT, NONE without. */
        int read(Tape tape, int n, Rules into) {
            fault = NONE;
            told = 0;
            into.clear();
            tape.open(n);
            for (int lines = 0; lines < n && fault == NONE && tape.sort != Tape.END; lines++) {
                readLine(tape, into);
            }
            return fault;
        }

        private void readLine(Tape tape, Rules into) {
            if (tape.tells("clock")) {
                readClock(tape, into);
            } else if (tape.tells("holiday")) {
                readHoliday(tape, into);
            } else if (tape.tells("round")) {
                passOnce(tape, ROUND_TOLD);
                into.round = readNumber(tape, 0, 14);
            } else if (tape.tells("meal")) {
                passOnce(tape, MEAL_TOLD);
                into.mealAfter = readNumber(tape, 1, 96);
                into.mealLength = readNumber(tape, 1, 16);
            } else if (tape.tells("longest")) {
                passOnce(tape, LONGEST_TOLD);
                into.longest = readNumber(tape, 1, 24);
            } else if (tape.tells("rate")) {
                passOnce(tape, RATE_TOLD);
                into.rate = readNumber(tape, 1, 400);
            } else if (tape.tells("premium")) {
                readPremium(tape, into);
            } else {
                refuse(tape.start, WRONG_TOKEN);
            }
            passIf(tape, tape.sort == Tape.SEMICOLON);
        }

        private void readClock(Tape tape, Rules into) {
            passOnce(tape, CLOCK_TOLD);
            int day = readNumber(tape, 0, DAYS - 1);
            int hour = readNumber(tape, 0, 23);
            boolean forward = tape.tells("forward");
            passIf(tape, forward || tape.tells("back"));
            into.clock.set(day, hour, forward ? Clock.FORWARD : Clock.BACK);
        }

        private void readHoliday(Tape tape, Rules into) {
            if (into.holidayCount >= Rules.HOLIDAYS) {
                refuse(tape.start, TOO_MANY);
                return;
            }
            tape.advance();
            int place = tape.start;
            int day = readNumber(tape, 0, DAYS - 1);
            if (into.isHoliday(day)) {
                refuse(place, WRONG_NUMBER);
            }
            into.holidays[into.holidayCount] = day;
            into.holidayCount++;
        }

        private void readPremium(Tape tape, Rules into) {
            if (into.premiumCount >= PREMIUMS) {
                refuse(tape.start, TOO_MANY);
                return;
            }
            tape.advance();
            Premium premium = into.premiums[into.premiumCount];
            into.premiumCount++;
            readKind(tape, premium);
            premium.hundredths = readNumber(tape, 1, 300);
            premium.counts = tape.tells("counts");
            if (premium.counts) {
                passIf(tape, true);
            }
        }

        private void readKind(Tape tape, Premium premium) {
            premium.first = NONE;
            premium.second = NONE;
            premium.kind = kindOf(tape);
            passIf(tape, premium.kind != NONE);
            if (premium.kind == DAY) {
                premium.first = readNumber(tape, 0, 96);
            } else if (premium.kind == WEEK) {
                premium.first = readNumber(tape, 0, 672);
            } else if (premium.kind == NIGHT) {
                premium.first = readNumber(tape, 0, 23);
                int place = tape.start;
                premium.second = readNumber(tape, 0, 23);
                if (premium.second == premium.first) {
                    refuse(place, WRONG_NUMBER);
                }
            }
        }

        private static int kindOf(Tape tape) {
            return tape.tells("day") ? DAY
                : tape.tells("week") ? WEEK
                : tape.tells("seventh") ? SEVENTH
                : tape.tells("night") ? NIGHT
                : tape.tells("holiday") ? HOLIDAY
                : NONE;
        }

        private void passOnce(Tape tape, int line) {
            if ((told & line) != 0) {
                refuse(tape.start, TOO_MANY);
            }
            told |= line;
            passIf(tape, true);
        }

        private void passIf(Tape tape, boolean goesOn) {
            if (!goesOn) {
                refuse(tape.start, WRONG_TOKEN);
            }
            if (fault == NONE) {
                tape.advance();
            }
        }

        private int readNumber(Tape tape, int least, int most) {
            if (tape.sort != Tape.NUMBER) {
                refuse(tape.start, WRONG_TOKEN);
                return NONE;
            }
            int value = tape.value();
            if (value < least || value > most) {
                refuse(tape.start, WRONG_NUMBER);
            }
            if (fault == NONE) {
                tape.advance();
            }
            return value;
        }

        /** What is found later lies further on: the first FAULT stays. */
        private void refuse(int place, int kind) {
            if (fault == NONE) {
                fault = 8 * place + kind;
            }
        }
    }

    /** The PUNCHES of one WORKER by MOMENTS. */
    private static final class Card {
        final int[] moments = new int[PUNCHES];
        final int[] kinds = new int[PUNCHES];
        int size;

        int find(int moment) {
            for (int i = 0; i < size; i++) {
                if (moments[i] == moment) {
                    return i;
                }
            }
            return NONE;
        }

        boolean takes(int moment) {
            return size < PUNCHES && find(moment) == NONE;
        }

        void add(int moment, int kind) {
            if (size >= PUNCHES) {
                return;
            }
            int place = size;
            while (place > 0 && moments[place - 1] > moment) {
                moments[place] = moments[place - 1];
                kinds[place] = kinds[place - 1];
                place--;
            }
            moments[place] = moment;
            kinds[place] = kind;
            size++;
        }

        void removeAt(int place) {
            if (place < 0 || place >= size) {
                return;
            }
            size--;
            for (int i = place; i < size; i++) {
                moments[i] = moments[i + 1];
                kinds[i] = kinds[i + 1];
            }
        }

        void copy(Card other) {
            size = other.size;
            for (int i = 0; i < size; i++) {
                moments[i] = other.moments[i];
                kinds[i] = other.kinds[i];
            }
        }
    }

    /** What can be taken back, the latest last. */
    private static final class History {
        static final int KEPT = 16;

        final int[] workers = new int[KEPT];
        final int[] moments = new int[KEPT];
        final int[] kinds = new int[KEPT];
        final boolean[] came = new boolean[KEPT];
        int size;

        void keep(int worker, int moment, int kind, boolean isNew) {
            if (size == KEPT) {
                dropOldest();
            }
            workers[size] = worker;
            moments[size] = moment;
            kinds[size] = kind;
            came[size] = isNew;
            size++;
        }

        private void dropOldest() {
            size--;
            for (int i = 0; i < size; i++) {
                workers[i] = workers[i + 1];
                moments[i] = moments[i + 1];
                kinds[i] = kinds[i + 1];
                came[i] = came[i + 1];
            }
        }
    }

    /** The runs of WORKED QUARTERS of one WORKER: a meal cuts a SPAN into two of them. */
    private static final class Pieces {
        final int[] begins = new int[PUNCHES];
        final int[] ends = new int[PUNCHES];
        int size;

        /** How many QUARTERS are put down. */
        int put(int begin, int end) {
            if (begin >= end || size >= begins.length) {
                return 0;
            }
            begins[size] = begin;
            ends[size] = end;
            size++;
            return end - begin;
        }

        boolean sameWithin(Pieces other, int from, int to) {
            int mine = firstBehind(from);
            int theirs = other.firstBehind(from);
            for (int steps = 0; steps <= size; steps++) {
                boolean goesOn = mine < size && begins[mine] < to;
                if (goesOn != (theirs < other.size && other.begins[theirs] < to)) {
                    return false;
                }
                if (!goesOn) {
                    return true;
                }
                if (Math.max(begins[mine], from) != Math.max(other.begins[theirs], from)
                        || Math.min(ends[mine], to) != Math.min(other.ends[theirs], to)) {
                    return false;
                }
                mine++;
                theirs++;
            }
            return true;
        }

        private int firstBehind(int quarter) {
            int i = 0;
            while (i < size && ends[i] <= quarter) {
                i++;
            }
            return i;
        }
    }

    /** What follows from a WORKER's PUNCHES; weeks in which nothing changed are not paid anew. */
    private static final class Sheet {
        static final int SPAN_FIRST = 0;
        static final int SPAN_SECOND = 1;
        static final int MISSING = 2;

        boolean stale = true;
        final int[] roles = new int[PUNCHES];
        final int[] spanBegins = new int[PUNCHES / 2];
        final int[] spanEnds = new int[PUNCHES / 2];
        final int[] spanWorked = new int[PUNCHES / 2];
        int spanCount;
        final int[] paid = new int[QUARTERS];
        final int[] came = new int[QUARTERS];
        final int[] may = new int[QUARTERS];
        private Pieces pieces = new Pieces();
        private Pieces earlier = new Pieces();
        private final int[] weekPay = new int[WEEKS];
        private int knownWeeks;
        private int allowedThen;

        void forget() {
            stale = true;
            knownWeeks = 0;
        }

        void renew(Card card, Rules rules, int allowed, BestWay way) {
            if (allowed != allowedThen) {
                knownWeeks = 0;
                allowedThen = allowed;
            }
            Pieces old = earlier;
            earlier = pieces;
            pieces = old;
            pieces.size = 0;
            pairUp(card, rules);
            for (int week = 0; week < WEEKS; week++) {
                int from = rules.clock.quartersAhead(week * WEEK_DAYS);
                int to = rules.clock.quartersAhead(week * WEEK_DAYS + WEEK_DAYS);
                if ((knownWeeks >> week & 1) == 0 || !pieces.sameWithin(earlier, from, to)) {
                    clearQuarters(from, to);
                    payWeek(week, rules, allowed, way);
                }
            }
            stale = false;
        }

        int allPay() {
            int sum = 0;
            for (int week = 0; week < WEEKS; week++) {
                sum += weekPay[week];
            }
            return sum;
        }

        private void pairUp(Card card, Rules rules) {
            spanCount = 0;
            int open = NONE;
            for (int k = 0; k < card.size; k++) {
                int kind = card.kinds[k];
                roles[k] = MISSING;
                if (kind == COMES || open == NONE) {
                    open = kind == GOES ? NONE : k;
                } else if (card.moments[k] - card.moments[open] <= rules.longest * 60) {
                    roles[open] = SPAN_FIRST;
                    roles[k] = SPAN_SECOND;
                    addSpan(rules.rounded(card.moments[open]), rules.rounded(card.moments[k]), rules);
                    open = NONE;
                } else {
                    open = kind == GOES ? NONE : k;
                }
            }
        }

        private void addSpan(int begin, int end, Rules rules) {
            if (spanCount >= spanBegins.length) {
                return;
            }
            int last = Math.min(end, rules.clock.quartersAhead(DAYS));
            int worked;
            if (rules.mealAfter > 0 && end - begin > rules.mealAfter) {
                int meal = begin + rules.mealAfter;
                worked = pieces.put(begin, Math.min(meal, last));
                worked += pieces.put(meal + rules.mealLength, last);
            } else {
                worked = pieces.put(begin, last);
            }
            spanBegins[spanCount] = begin;
            spanEnds[spanCount] = end;
            spanWorked[spanCount] = worked;
            spanCount++;
        }

        private void clearQuarters(int from, int to) {
            for (int q = from; q < to; q++) {
                paid[q] = NOT_WORKED;
                came[q] = NOT_WORKED;
            }
        }

        private void payWeek(int week, Rules rules, int allowed, BestWay way) {
            Week work = way.work;
            work.gather(week, pieces, rules, allowed);
            work.payAsTheyCome(rules, allowed);
            for (int i = 0; i < work.size; i++) {
                came[work.quarters[i]] = work.paid[i];
            }
            int hundredths = way.payBest(rules, allowed);
            for (int i = 0; i < work.size; i++) {
                paid[work.quarters[i]] = work.paid[i];
                may[work.quarters[i]] = work.bits[i];
            }
            weekPay[week] = rules.rate * (100 * work.size + hundredths);
            knownWeeks |= 1 << week;
        }
    }

    /** The WORKED QUARTERS of the week that is paid, with the PREMIUMS that may be, as bits. */
    private static final class Week {
        final int[] quarters = new int[WEEK_QUARTERS];
        final int[] bits = new int[WEEK_QUARTERS];
        final int[] paid = new int[WEEK_QUARTERS];
        int size;
        private int daysWorked;

        /** The bits of week PREMIUMS are left out: they hang on how the QUARTERS ahead are PAID. */
        void gather(int week, Pieces pieces, Rules rules, int allowed) {
            size = 0;
            daysWorked = 0;
            for (int day = week * WEEK_DAYS; day < week * WEEK_DAYS + WEEK_DAYS; day++) {
                int before = size;
                gatherDay(day, pieces, rules, allowed);
                if (size > before) {
                    daysWorked++;
                }
            }
        }

        private void gatherDay(int day, Pieces pieces, Rules rules, int allowed) {
            boolean seventh = day % WEEK_DAYS == WEEK_DAYS - 1 && daysWorked == WEEK_DAYS - 1;
            boolean holiday = rules.isHoliday(day);
            int from = rules.clock.quartersAhead(day);
            int to = rules.clock.quartersAhead(day + 1);
            int before = size;
            for (int i = 0; i < pieces.size; i++) {
                int end = Math.min(pieces.ends[i], to);
                for (int q = Math.max(pieces.begins[i], from); q < end && size < WEEK_QUARTERS; q++) {
                    int hour = rules.clock.hourAt(q * QUARTER_MINUTES);
                    quarters[size] = q;
                    bits[size] = rules.steadyBits(hour, size - before, seventh, holiday) & allowed;
                    size++;
                }
            }
        }

        void payAsTheyCome(Rules rules, int allowed) {
            int counted = 0;
            for (int i = 0; i < size; i++) {
                paid[i] = rules.dearestOf(bits[i] | rules.weekBits(counted) & allowed);
                if (rules.countsUnder(paid[i])) {
                    counted++;
                }
            }
        }
    }

    /**
     * Finds the BEST way to pay a week. What can still be won from a QUARTER on hangs only on how many
     * QUARTERS COUNT ahead of it, and of these no more than the largest number of a week PREMIUM matter.
     */
    private static final class BestWay {
        static final int COUNTING_WINS = 1;
        static final int OTHER_WINS = 2;
        static final int MARKS_IN_INT = 16;
        static final int ROW = WEEK_QUARTERS / MARKS_IN_INT + 1;

        final Week work = new Week();
        /** Hundredths that can be won at a QUARTER without week PREMIUMS: so that it COUNTS, or doesn't. */
        private final int[] counting = new int[WEEK_QUARTERS];
        private final int[] other = new int[WEEK_QUARTERS];
        /** The same of week PREMIUMS alone, by how many COUNT ahead. */
        private final int[] weekCounting = new int[WEEK_QUARTERS];
        private final int[] weekOther = new int[WEEK_QUARTERS];
        /** How many COUNT at least ahead of a QUARTER: fewer need no look. */
        private final int[] least = new int[WEEK_QUARTERS];
        /** What can be won from a QUARTER on, by how many COUNT ahead of it. */
        private final int[] rest = new int[WEEK_QUARTERS];
        /** Which ways are BEST, two bits for each QUARTER and how many COUNT ahead of it. */
        private final int[] marks = new int[WEEK_QUARTERS * ROW];
        private int top;

        /** How many hundredths the week wins. */
        int payBest(Rules rules, int allowed) {
            top = rules.largestWeekBelow(work.size, allowed);
            for (int counted = 0; counted <= top; counted++) {
                int weekBits = rules.weekBits(counted) & allowed;
                weekCounting[counted] = rules.mostOf(weekBits, true, 0);
                weekOther[counted] = rules.mostOf(weekBits, false, NONE);
                rest[counted] = 0;
            }
            measureQuarters(rules);
            for (int i = work.size - 1; i >= 0; i--) {
                markQuarter(i);
            }
            return followMarks(rules, allowed);
        }

        private void measureQuarters(Rules rules) {
            int fewest = 0;
            for (int i = 0; i < work.size; i++) {
                counting[i] = rules.mostOf(work.bits[i], true, 0);
                other[i] = rules.mostOf(work.bits[i], false, NONE);
                least[i] = fewest;
                if (fewest < top && other[i] == NONE && weekOther[fewest] == NONE) {
                    fewest++;
                }
            }
        }

        private void markQuarter(int i) {
            int most = Math.min(i, top);
            for (int counted = least[i]; counted <= most; counted++) {
                int byCounting = Math.max(counting[i], weekCounting[counted]) + rest[Math.min(counted + 1, top)];
                int atOther = Math.max(other[i], weekOther[counted]);
                int byOther = atOther == NONE ? NONE : atOther + rest[counted];
                rest[counted] = Math.max(byCounting, byOther);
                int mark = byCounting >= byOther ? COUNTING_WINS : 0;
                setMark(i, counted, byOther >= byCounting ? mark | OTHER_WINS : mark);
            }
        }

        private void setMark(int i, int counted, int mark) {
            int place = i * ROW + counted / MARKS_IN_INT;
            int shift = counted % MARKS_IN_INT * 2;
            marks[place] = marks[place] & ~(3 << shift) | mark << shift;
        }

        private int markAt(int i, int counted) {
            return marks[i * ROW + counted / MARKS_IN_INT] >> counted % MARKS_IN_INT * 2 & 3;
        }

        private int followMarks(Rules rules, int allowed) {
            int won = 0;
            int counted = 0;
            for (int i = 0; i < work.size; i++) {
                work.bits[i] |= rules.weekBits(counted) & allowed;
                work.paid[i] = firstBest(i, counted, markAt(i, counted), rules);
                won += rules.hundredthsUnder(work.paid[i]);
                if (rules.countsUnder(work.paid[i]) && counted < top) {
                    counted++;
                }
            }
            return won;
        }

        private int firstBest(int i, int counted, int mark, Rules rules) {
            int atCounting = Math.max(counting[i], weekCounting[counted]);
            int atOther = Math.max(other[i], weekOther[counted]);
            if ((mark & COUNTING_WINS) != 0 && atCounting == 0) {
                return NONE;
            }
            for (int k = 0; k < rules.premiumCount; k++) {
                boolean counts = rules.premiums[k].counts;
                boolean wins = (mark & (counts ? COUNTING_WINS : OTHER_WINS)) != 0;
                if (wins && (work.bits[i] >> k & 1) != 0
                        && rules.premiums[k].hundredths == (counts ? atCounting : atOther)) {
                    return k;
                }
            }
            return NONE;
        }
    }
}
